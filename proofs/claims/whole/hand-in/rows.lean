section
/-! pure rows to paste: stores, nI and lN arithmetic, masks, shifts, narrowing, branches by naturals (pk_le, pk_lt, pk_eq), loops (lp1 .. lp16: the measure of the state; rp1 ..: recursion), negatives. Take what you need -/
theorem pk_us {f : Nat → Int32} {k : Nat} {x : Int32} : upd f k x k = x := if_pos rfl
theorem pk_un {f : Nat → Int32} {k j : Nat} {x : Int32} (h : j ≠ k) : upd f k x j = f j := if_neg h
theorem pk_uLs {f : Nat → Int64} {k : Nat} {x : Int64} : vp_updL f k x k = x := if_pos rfl
theorem pk_uLn {f : Nat → Int64} {k j : Nat} {x : Int64} (h : j ≠ k) : vp_updL f k x j = f j := if_neg h
theorem pk_sub {a b : Nat} (h : b ≤ a) : nI a - nI b = nI (a - b) := by
  obtain ⟨c, rfl⟩ : ∃ c, a = c + b := ⟨a - b, by omega⟩
  rw [← nI_add, Int32.add_sub_cancel, Nat.add_sub_cancel]
theorem pk_m1 (n : Nat) : nI (n + 1) + (-1) = nI n := by
  rw [← nI_1, Int32.add_assoc, show (1 : Int32) + (-1) = 0 from rfl, Int32.add_zero]
theorem pk_mul (a b : Nat) : nI a * nI b = nI (a * b) := (Int32.ofNat_mul a b).symm
theorem pk_div {a d : Nat} (ha : a < 2 ^ 31) (h0 : 0 < d) (hd : d < 2 ^ 31) : nI a / nI d = nI (a / d) := by
  apply Int32.toInt_inj.mp
  rw [lg_idiv_nonneg (by rw [nI_toInt ha]; omega) (by rw [nI_toInt hd]; omega), nI_toInt ha, nI_toInt hd, nI_toInt (Nat.lt_of_le_of_lt (Nat.div_le_self a d) ha)]
  first | rfl | exact (Int.natCast_ediv _ _).symm
theorem pk_rem {a d : Nat} (ha : a < 2 ^ 31) (h0 : 0 < d) (hd : d < 2 ^ 31) : nI a - nI a / nI d * nI d = nI (a % d) := by
  rw [pk_div ha h0 hd, pk_mul, pk_sub (Nat.div_mul_le_self a d)]
  exact congrArg nI (by have := Nat.div_add_mod' a d; omega)
theorem pk_sub_toInt {a b : Nat} (ha : a < 2 ^ 30) (hb : b < 2 ^ 30) : (nI a - nI b).toInt = (a : Int) - b := by
  rw [Int32.toInt_sub, nI_toInt (by omega), nI_toInt (by omega)]
  exact Int.bmod_eq_of_le (by omega) (by omega)
theorem pk_sneg {a b : Nat} (hb : b < 2 ^ 30) (h : a < b) : nI a - nI b < 0 := by
  rw [Int32.lt_iff_toInt_lt, pk_sub_toInt (by omega) hb, show (0 : Int32).toInt = 0 from by decide]
  omega
theorem pk_ix (x : Int32) {n : Nat} (hn : n < 2 ^ 31) : x < 0 ∨ nI n ≤ x ∨ ∃ j : Nat, j < n ∧ x = nI j := by
  by_cases h : x < 0
  · exact Or.inl h
  · obtain ⟨j, hj, rfl⟩ := nI_of h
    by_cases h2 : j < n
    · exact Or.inr (Or.inr ⟨j, h2, rfl⟩)
    · exact Or.inr (Or.inl (nI_le (by omega) hj))
theorem pk_le {x y : Int32} {A B : Prop} (a b : Nat) (f : a ≤ b → A) (g : b < a → B) (hx : x = nI a := by rfl) (hy : y = nI b := by rfl) (ha : a < 2 ^ 31 := by omega) (hb : b < 2 ^ 31 := by omega) : (x ≤ y → A) ∧ (¬ x ≤ y → B) := by
  subst hx hy
  rw [nI_leI ha hb]
  exact ⟨f, fun z => g (by omega)⟩
theorem pk_lt {x y : Int32} {A B : Prop} (a b : Nat) (f : a < b → A) (g : b ≤ a → B) (hx : x = nI a := by rfl) (hy : y = nI b := by rfl) (ha : a < 2 ^ 31 := by omega) (hb : b < 2 ^ 31 := by omega) : (x < y → A) ∧ (¬ x < y → B) := by
  subst hx hy
  rw [nI_ltI ha hb]
  exact ⟨f, fun z => g (by omega)⟩
theorem pk_eq {x y : Int32} {A B : Prop} (a b : Nat) (f : a = b → A) (g : a ≠ b → B) (hx : x = nI a := by rfl) (hy : y = nI b := by rfl) (ha : a < 2 ^ 31 := by omega) (hb : b < 2 ^ 31 := by omega) : (x = y → A) ∧ (¬ x = y → B) := by
  subst hx hy
  rw [nI_eq ha hb]
  exact ⟨f, g⟩
theorem pk_in {x : Int32} (n N : Nat) (h : n < N) (hx : x = nI n := by rfl) (hN : N < 2 ^ 31 := by omega) : vp_in x N := by
  subst hx
  exact vp_in_nI h hN
theorem pk_cl {x : Int32} (n : Nat) (hx : x = nI n := by rfl) (h : n < 2 ^ 31 := by omega) : x.toNatClampNeg = n := by
  subst hx
  exact nI_clamp h
theorem pk_tn {n : Nat} (h : n < 2 ^ 32) : (nI n).toBitVec.toNat = n := Nat.mod_eq_of_lt h
theorem pk_and (x : Int32) {m : Int32} (k : Nat) (hm : m.toBitVec.toNat = 2 ^ k - 1) : x &&& m = nI (x.toBitVec.toNat % 2 ^ k) := by
  apply Int32.toBitVec_inj.mp
  apply BitVec.eq_of_toNat_eq
  rw [Int32.toBitVec_and, BitVec.toNat_and, hm, Nat.and_two_pow_sub_one_eq_mod]
  show _ = (BitVec.ofNat 32 _).toNat
  rw [BitVec.toNat_ofNat]
  exact (Nat.mod_eq_of_lt (Nat.lt_of_le_of_lt (Nat.mod_le _ _) x.toBitVec.isLt)).symm
theorem pk_andN {n : Nat} (h : n < 2 ^ 32) {m : Int32} (k : Nat) (hm : m.toBitVec.toNat = 2 ^ k - 1) : nI n &&& m = nI (n % 2 ^ k) := by
  rw [pk_and _ k hm, pk_tn h]
theorem pk_andE (x : Int32) {m : Int32} (k : Nat) (hm : m.toBitVec.toNat = 2 ^ k - 1) : ∃ j : Nat, j < 2 ^ k ∧ x &&& m = nI j := ⟨_, Nat.mod_lt _ (Nat.two_pow_pos k), pk_and x k hm⟩
theorem pk_andIn (x : Int32) {m : Int32} (k : Nat) (hm : m.toBitVec.toNat = 2 ^ k - 1) (hk : k ≤ 30) : vp_in (x &&& m) (2 ^ k) := by
  obtain ⟨j, hj, e⟩ := pk_andE x k hm
  rw [e]
  exact vp_in_nI hj (Nat.lt_of_le_of_lt (Nat.pow_le_pow_right (by decide) hk) (by decide))
theorem pk_shl (a s : Int32) (k : Nat) (hs : (s.toBitVec.smod 32).toNat = k) : (a <<< s).toBitVec.toNat = a.toBitVec.toNat * 2 ^ k % 2 ^ 32 := by
  show (a.toBitVec <<< (s.toBitVec.smod 32).toNat).toNat = _
  rw [hs, BitVec.toNat_shiftLeft, Nat.shiftLeft_eq]
theorem pk_shlN {n : Nat} (s : Int32) (k : Nat) (hs : (s.toBitVec.smod 32).toNat = k) (h : n * 2 ^ k < 2 ^ 32) : nI n <<< s = nI (n * 2 ^ k) := by
  apply Int32.toBitVec_inj.mp
  apply BitVec.eq_of_toNat_eq
  have hn : n < 2 ^ 32 := Nat.lt_of_le_of_lt (Nat.le_mul_of_pos_right n (Nat.two_pow_pos k)) h
  rw [pk_shl _ _ k hs, pk_tn hn, pk_tn h, Nat.mod_eq_of_lt h]
theorem pk_shr (a s : Int32) (k : Nat) (hs : (s.toBitVec.smod 32).toNat = k) : (a >>> s).toInt = a.toInt >>> k := by
  show (a.toBitVec.sshiftRight (s.toBitVec.smod 32).toNat).toInt = _
  rw [hs, BitVec.toInt_sshiftRight]
  rfl
theorem pk_shrN {n : Nat} (h : n < 2 ^ 31) (s : Int32) (k : Nat) (hs : (s.toBitVec.smod 32).toNat = k) : nI n >>> s = nI (n / 2 ^ k) := by
  apply Int32.toInt_inj.mp
  have h2 : n / 2 ^ k ≤ n := Nat.div_le_self _ _
  rw [pk_shr _ _ k hs, nI_toInt h, nI_toInt (by omega), Int.shiftRight_eq_div_pow]
  rfl
theorem pk_ushr (x s : Int32) (k : Nat) (hs : ((s.toUInt32 &&& Int32.toUInt32 31).toBitVec % 32).toNat = k) : (x.toUInt32 >>> (s.toUInt32 &&& Int32.toUInt32 31)).toInt32.toBitVec.toNat = x.toBitVec.toNat / 2 ^ k := by
  have e : (x.toUInt32 >>> (s.toUInt32 &&& Int32.toUInt32 31)).toInt32.toBitVec = x.toBitVec >>> k := by
    rw [← hs]
    exact UInt32.toBitVec_shiftRight _ _
  rw [e, BitVec.toNat_ushiftRight, Nat.shiftRight_eq_div_pow]
theorem pk_ushrN {n : Nat} (hn : n < 2 ^ 32) (s : Int32) (k : Nat) (hs : ((s.toUInt32 &&& Int32.toUInt32 31).toBitVec % 32).toNat = k) : ((nI n).toUInt32 >>> (s.toUInt32 &&& Int32.toUInt32 31)).toInt32 = nI (n / 2 ^ k) := by
  apply Int32.toBitVec_inj.mp
  apply BitVec.eq_of_toNat_eq
  rw [pk_ushr _ s k hs, pk_tn hn, pk_tn (Nat.lt_of_le_of_lt (Nat.div_le_self _ _) hn)]
theorem pk_nb (z : Int32) : narrow .byte (.int z.toInt8.toInt32) = .int z.toInt8.toInt32 := congrArg Value.int (by simp)
theorem pk_ns (z : Int32) : narrow .short (.int z.toInt16.toInt32) = .int z.toInt16.toInt32 := congrArg Value.int (by simp)
theorem pk_fb (r : Int32) : fits .byte (.int r.toInt8.toInt32) = true := by
  have ⟨a, b⟩ := lg_i2b_range r
  have h1 : (-128 : Int32).toInt = -128 := by decide
  have h2 : (127 : Int32).toInt = 127 := by decide
  simp only [fits, Bool.and_eq_true, decide_eq_true_eq, Int32.le_iff_toInt_le, h1, h2]
  omega
theorem pk_fs (r : Int32) : fits .short (.int r.toInt16.toInt32) = true := by
  have ⟨a, b⟩ := lg_i2s_range r
  have h1 : (-32768 : Int32).toInt = -32768 := by decide
  have h2 : (32767 : Int32).toInt = 32767 := by decide
  simp only [fits, Bool.and_eq_true, decide_eq_true_eq, Int32.le_iff_toInt_le, h1, h2]
  omega
theorem pk_charN {q : Nat} (hq : q < 65536) : narrow .char (.int (nI q)) = .int (nI q) ∧ fits .char (.int (nI q)) = true := by
  constructor
  · have e : (nI q).toUInt32.toUInt16.toUInt32.toInt32 = nI q := by
      apply Int32.toBitVec_inj.mp
      apply BitVec.eq_of_toNat_eq
      show (nI q).toUInt32.toUInt16.toUInt32.toNat = q % 2 ^ 32
      rw [UInt16.toNat_toUInt32, UInt32.toNat_toUInt16, show (nI q).toUInt32.toNat = q % 2 ^ 32 from rfl]
      omega
    exact congrArg Value.int e
  · have a : (0 : Int32) ≤ nI q := nI_pos' (by omega)
    have b : nI q ≤ 65535 := nI_le (b := 65535) (by omega) (by decide)
    show (decide ((0 : Int32) ≤ nI q) && decide (nI q ≤ 65535)) = true
    rw [decide_eq_true a, decide_eq_true b]
    rfl
theorem pk_char (x : Int32) : (x.toUInt32 % 65536).toInt32 = nI (x.toBitVec.toNat % 65536) := by
  apply Int32.toBitVec_inj.mp
  apply BitVec.eq_of_toNat_eq
  rw [pk_tn (by omega)]
  show (x.toUInt32 % 65536).toNat = _
  rw [UInt32.toNat_mod]
  rfl
theorem pk_nc (x : Int32) : narrow .char (.int (x.toUInt32 % 65536).toInt32) = .int (x.toUInt32 % 65536).toInt32 := by
  rw [pk_char]
  exact (pk_charN (Nat.mod_lt _ (by decide))).1
theorem pk_fc (x : Int32) : fits .char (.int (x.toUInt32 % 65536).toInt32) = true := by
  rw [pk_char]
  exact (pk_charN (Nat.mod_lt _ (by decide))).2
theorem pk_vb (z : Int32) : vp_nar .byte z.toInt8.toInt32 = z.toInt8.toInt32 := by rw [vp_nar_byte]; simp
theorem pk_vs (z : Int32) : vp_nar .short z.toInt16.toInt32 = z.toInt16.toInt32 := by rw [vp_nar_short]; simp
theorem pk_vc (z : Int32) : vp_nar .char (z.toUInt32 % 65536).toInt32 = (z.toUInt32 % 65536).toInt32 := Value.int.inj (pk_nc z)
theorem pk_lT {n : Nat} (h : n < 2 ^ 63) : (lN n).toInt = (n : Int) := lg_ofNat_toInt h
theorem pk_lLT {a b : Nat} (ha : a < 2 ^ 63) (hb : b < 2 ^ 63) : lN a < lN b ↔ a < b := by
  rw [Int64.lt_iff_toInt_lt, pk_lT ha, pk_lT hb]; omega
theorem pk_lLE {a b : Nat} (ha : a < 2 ^ 63) (hb : b < 2 ^ 63) : lN a ≤ lN b ↔ a ≤ b := by
  rw [Int64.le_iff_toInt_le, pk_lT ha, pk_lT hb]; omega
theorem pk_lEQ {a b : Nat} (ha : a < 2 ^ 63) (hb : b < 2 ^ 63) : lN a = lN b ↔ a = b := by
  rw [← Int64.toInt_inj, pk_lT ha, pk_lT hb]; omega
theorem pk_lOf {x : Int64} (h : ¬ x < 0) : ∃ k : Nat, k < 2 ^ 63 ∧ x = lN k := by
  rw [Int64.lt_iff_toInt_lt] at h
  have h0 : (0 : Int64).toInt = 0 := by decide
  have hx := Int64.toInt_lt x
  refine ⟨x.toInt.toNat, by omega, Int64.toInt_inj.mp ?_⟩
  rw [pk_lT (by omega)]
  omega
theorem pk_lDiv {a b : Nat} (ha : a < 2 ^ 63) (h0 : 0 < b) (hb : b < 2 ^ 63) : lN a / lN b = lN (a / b) := by
  apply Int64.toInt_inj.mp
  rw [lg_ldiv_nonneg (by rw [pk_lT ha]; omega) (by rw [pk_lT hb]; omega), pk_lT ha, pk_lT hb, pk_lT (Nat.lt_of_le_of_lt (Nat.div_le_self a b) ha)]
  rfl
theorem pk_lRem {a b : Nat} (ha : a < 2 ^ 63) (h0 : 0 < b) (hb : b < 2 ^ 63) : lN a - lN a / lN b * lN b = lN (a % b) := by
  rw [pk_lDiv ha h0 hb, lN_mul, lN_sub (Nat.div_mul_le_self a b)]
  exact congrArg lN (by have := Nat.div_add_mod' a b; omega)
/-! ===== Int32 by its bits: bt x i ===== -/
def bt (x : Int32) (i : Nat) : Bool := x.toBitVec.getLsbD i
theorem b_ext {x y : Int32} (h : ∀ i, i < 32 → bt x i = bt y i) : x = y := Int32.toBitVec_inj.mp (BitVec.eq_of_getLsbD_eq (fun i hi => h i hi))
theorem b_or (x y : Int32) (i : Nat) : bt (x ||| y) i = (bt x i || bt y i) := by unfold bt; rw [Int32.toBitVec_or, BitVec.getLsbD_or]
theorem b_and (x y : Int32) (i : Nat) : bt (x &&& y) i = (bt x i && bt y i) := by unfold bt; rw [Int32.toBitVec_and, BitVec.getLsbD_and]
theorem b_xor (x y : Int32) (i : Nat) : bt (x ^^^ y) i = (bt x i ^^ bt y i) := by unfold bt; rw [Int32.toBitVec_xor, BitVec.getLsbD_xor]
theorem b_big {x : Int32} {i : Nat} (h : 32 ≤ i) : bt x i = false := BitVec.getLsbD_of_ge _ _ h
theorem b_255 (i : Nat) : bt 255 i = decide (i < 8) := by
  rcases Nat.lt_or_ge i 32 with h | h
  · exact (by decide +kernel : ∀ i, i < 32 → bt 255 i = decide (i < 8)) i h
  · rw [b_big h, decide_eq_false (by omega)]
theorem b_65535 (i : Nat) : bt 65535 i = decide (i < 16) := by
  rcases Nat.lt_or_ge i 32 with h | h
  · exact (by decide +kernel : ∀ i, i < 32 → bt 65535 i = decide (i < 16)) i h
  · rw [b_big h, decide_eq_false (by omega)]
theorem b_m1 : ∀ i, i < 32 → bt (-1) i = true := by decide +kernel
theorem b_0 (i : Nat) : bt 0 i = false := BitVec.getLsbD_zero
theorem s_l : ∀ n, n < 32 → ((nI n &&& 31).toBitVec.smod 32).toNat = n := by decide +kernel
theorem s_u : ∀ n, n < 32 → (((nI n).toUInt32 &&& Int32.toUInt32 31).toBitVec % 32).toNat = n := by decide +kernel
theorem b_shl (n : Nat) (hn : n < 32) (x : Int32) {i : Nat} (hi : i < 32) : bt (x <<< (nI n &&& 31)) i = (decide (n ≤ i) && bt x (i - n)) := by
  unfold bt
  rw [Int32.toBitVec_shiftLeft]
  show (x.toBitVec <<< ((nI n &&& 31).toBitVec.smod 32).toNat).getLsbD i = _
  rw [s_l n hn, BitVec.getLsbD_shiftLeft]
  rcases Nat.lt_or_ge i n with h | h
  · simp [h, Nat.not_le.mpr h]
  · simp [hi, h, Nat.not_lt.mpr h]
theorem b_ushr (n : Nat) (hn : n < 32) (x : Int32) (i : Nat) : bt ((x.toUInt32 >>> ((nI n).toUInt32 &&& Int32.toUInt32 31)).toInt32) i = bt x (n + i) := by
  show (x.toUInt32 >>> ((nI n).toUInt32 &&& Int32.toUInt32 31)).toBitVec.getLsbD i = x.toUInt32.toBitVec.getLsbD (n + i)
  rw [UInt32.toBitVec_shiftRight]
  show (x.toUInt32.toBitVec >>> (((nI n).toUInt32 &&& Int32.toUInt32 31).toBitVec % 32).toNat).getLsbD i = _
  rw [s_u n hn, BitVec.getLsbD_ushiftRight]
theorem b_sshr (n : Nat) (hn : n < 32) (x : Int32) {i : Nat} (hi : i < 32) : bt (x >>> (nI n &&& 31)) i = if n + i < 32 then bt x (n + i) else bt x 31 := by
  unfold bt
  rw [Int32.toBitVec_shiftRight]
  show (x.toBitVec.sshiftRight ((nI n &&& 31).toBitVec.smod 32).toNat).getLsbD i = _
  rw [s_l n hn, BitVec.getLsbD_sshiftRight, BitVec.msb_eq_getLsbD_last]
  simp [hi]
theorem b_shl8 (x : Int32) {i : Nat} (hi : i < 32) : bt (x <<< ((8 : Int32) &&& 31)) i = (decide (8 ≤ i) && bt x (i - 8)) := b_shl 8 (by omega) x hi
theorem b_shl16 (x : Int32) {i : Nat} (hi : i < 32) : bt (x <<< ((16 : Int32) &&& 31)) i = (decide (16 ≤ i) && bt x (i - 16)) := b_shl 16 (by omega) x hi
theorem b_shl24 (x : Int32) {i : Nat} (hi : i < 32) : bt (x <<< ((24 : Int32) &&& 31)) i = (decide (24 ≤ i) && bt x (i - 24)) := b_shl 24 (by omega) x hi
theorem b_sshr8 (x : Int32) {i : Nat} (hi : i < 32) : bt (x >>> ((8 : Int32) &&& 31)) i = if 8 + i < 32 then bt x (8 + i) else bt x 31 := b_sshr 8 (by omega) x hi
/-! ===== nI under and, xor, >>>, one bit, 65535 ===== -/
theorem nx_and (a b : Nat) : nI a &&& nI b = nI (a &&& b) := by
  apply Int32.toBitVec_inj.1
  show BitVec.ofNat 32 a &&& BitVec.ofNat 32 b = BitVec.ofNat 32 (a &&& b)
  apply BitVec.eq_of_getLsbD_eq
  intro i hi
  simp [hi]
theorem nx_xor (a b : Nat) : nI a ^^^ nI b = nI (a ^^^ b) := by
  apply Int32.toBitVec_inj.1
  show BitVec.ofNat 32 a ^^^ BitVec.ofNat 32 b = BitVec.ofNat 32 (a ^^^ b)
  apply BitVec.eq_of_getLsbD_eq
  intro i hi
  simp [hi]
end
section
/-! whole numbers as Int32 and Int64 -/
def zz_i (z : Int) : Int32 := Int32.ofInt z
def zz_l (z : Int) : Int64 := Int64.ofInt z
theorem zz_it {z : Int} (h : z.natAbs < 2147483648) : (zz_i z).toInt = z := Int32.toInt_ofInt_of_le (by omega) (by omega)
theorem zz_lt {z : Int} (h : z.natAbs < 9223372036854775808) : (zz_l z).toInt = z := Int64.toInt_ofInt_of_le (by omega) (by omega)
theorem zz_n (n : Nat) : nI n = zz_i n := Int32.ofInt_eq_ofNat.symm
theorem zz_nl (n : Nat) : lN n = zz_l n := Int64.ofInt_eq_ofNat.symm
theorem zz_ti (x : Int32) : zz_i x.toInt = x := Int32.ofInt_toInt x
theorem zz_i0 : zz_i 0 = 0 := rfl
theorem zz_l0 : zz_l 0 = 0 := rfl
theorem zz_i1 : zz_i 1 = 1 := rfl
theorem zz_l1 : zz_l 1 = 1 := rfl
theorem zz_im1 : zz_i (-1) = -1 := rfl
theorem zz_imul (a b : Int) : zz_i a * zz_i b = zz_i (a * b) := (Int32.ofInt_mul a b).symm
theorem zz_isub (a b : Int) : zz_i a - zz_i b = zz_i (a - b) := (Int32.ofInt_sub a b).symm
theorem zz_iadd (a b : Int) : zz_i a + zz_i b = zz_i (a + b) := (Int32.ofInt_add a b).symm
theorem zz_ineg (a : Int) : -zz_i a = zz_i (-a) := (Int32.ofInt_neg a).symm
theorem zz_lmul (a b : Int) : zz_l a * zz_l b = zz_l (a * b) := (Int64.ofInt_mul a b).symm
theorem zz_lsub (a b : Int) : zz_l a - zz_l b = zz_l (a - b) := (Int64.ofInt_sub a b).symm
theorem zz_lneg (a : Int) : -zz_l a = zz_l (-a) := (Int64.ofInt_neg a).symm
theorem zz_idiv {a b : Int} (ha : a.natAbs < 2147483648) (hb : b.natAbs < 2147483648) : zz_i a / zz_i b = zz_i (a.tdiv b) :=
  (Int32.ofInt_tdiv (by rw [Int32.toInt_minValue]; omega) (by rw [Int32.toInt_maxValue]; omega) (by rw [Int32.toInt_minValue]; omega) (by rw [Int32.toInt_maxValue]; omega)).symm
theorem zz_ldiv {a b : Int} (ha : a.natAbs < 9223372036854775808) (hb : b.natAbs < 9223372036854775808) : zz_l a / zz_l b = zz_l (a.tdiv b) :=
  (Int64.ofInt_tdiv (by rw [Int64.toInt_minValue]; omega) (by rw [Int64.toInt_maxValue]; omega) (by rw [Int64.toInt_minValue]; omega) (by rw [Int64.toInt_maxValue]; omega)).symm
theorem zz_ile {a b : Int} (ha : a.natAbs < 2147483648) (hb : b.natAbs < 2147483648) : zz_i a ≤ zz_i b ↔ a ≤ b := by rw [Int32.le_iff_toInt_le, zz_it ha, zz_it hb]
theorem zz_ilt {a b : Int} (ha : a.natAbs < 2147483648) (hb : b.natAbs < 2147483648) : zz_i a < zz_i b ↔ a < b := by rw [Int32.lt_iff_toInt_lt, zz_it ha, zz_it hb]
theorem zz_ieq {a b : Int} (ha : a.natAbs < 2147483648) (hb : b.natAbs < 2147483648) : zz_i a = zz_i b ↔ a = b := by rw [← Int32.toInt_inj, zz_it ha, zz_it hb]
theorem zz_lle {a b : Int} (ha : a.natAbs < 9223372036854775808) (hb : b.natAbs < 9223372036854775808) : zz_l a ≤ zz_l b ↔ a ≤ b := by rw [Int64.le_iff_toInt_le, zz_lt ha, zz_lt hb]
theorem zz_llt {a b : Int} (ha : a.natAbs < 9223372036854775808) (hb : b.natAbs < 9223372036854775808) : zz_l a < zz_l b ↔ a < b := by rw [Int64.lt_iff_toInt_lt, zz_lt ha, zz_lt hb]
theorem zz_leq {a b : Int} (ha : a.natAbs < 9223372036854775808) (hb : b.natAbs < 9223372036854775808) : zz_l a = zz_l b ↔ a = b := by rw [← Int64.toInt_inj, zz_lt ha, zz_lt hb]
theorem zz_ie0 {a : Int} (ha : a.natAbs < 2147483648) : zz_i a = 0 ↔ a = 0 := zz_ieq (b := 0) ha (by decide)
theorem zz_le0 {a : Int} (ha : a.natAbs < 9223372036854775808) : zz_l a = 0 ↔ a = 0 := zz_leq (b := 0) ha (by decide)
theorem zz_i0le {a : Int} (ha : a.natAbs < 2147483648) : 0 ≤ zz_i a ↔ 0 ≤ a := zz_ile (a := 0) (by decide) ha
theorem zz_l0le {a : Int} (ha : a.natAbs < 9223372036854775808) : 0 ≤ zz_l a ↔ 0 ≤ a := zz_lle (a := 0) (by decide) ha
theorem zz_l0lt {a : Int} (ha : a.natAbs < 9223372036854775808) : 0 < zz_l a ↔ 0 < a := zz_llt (a := 0) (by decide) ha
theorem zz_lle1 {a : Int} (ha : a.natAbs < 9223372036854775808) : zz_l a ≤ 1 ↔ a ≤ 1 := zz_lle (b := 1) ha (by decide)
theorem zz_il {a : Int} (ha : a.natAbs < 2147483648) : (zz_i a).toInt64 = zz_l a :=
  Int32.toInt64_ofInt (by rw [Int32.toInt_minValue]; omega) (by rw [Int32.toInt_maxValue]; omega)
theorem zz_li (a : Int) : (zz_l a).toInt32 = zz_i a := Int64.toInt32_ofInt
/-! indices -/
theorem zz_x (s j : Nat) : nI s * 8 + nI j = nI (8 * s + j) := by
  rw [show (8 : Int32) = nI 8 from rfl, pk_mul, nI_add, Nat.mul_comm]
theorem zz_y (s j : Nat) : 8 * nI s + nI j = nI (8 * s + j) := by
  rw [show (8 : Int32) = nI 8 from rfl, pk_mul, nI_add]
/-! bounds of sums and products -/
theorem zz_mb {a b : Int} {A B : Nat} (ha : a.natAbs ≤ A) (hb : b.natAbs ≤ B) : (a * b).natAbs ≤ A * B := by
  rw [Int.natAbs_mul]; exact Nat.mul_le_mul ha hb
/-! the greatest common divisor: both loops -/
theorem ze_x (post : Int32 → Prop) : ∀ (n y x s : Nat), y < n → x < 2 ^ 31 → y < 2 ^ 31 → s + y < 1000000 → post (nI (Nat.gcd x y)) → wX_commonDivisor_13 post n (nI x) (nI y) (nI s) := by
  intro n
  induction n with
  | zero => intro y x s h; omega
  | succ n ih =>
    intro y x s hn hx hy hs hp
    have h1 : ¬ (1000000 : Int32) ≤ nI s := nI_ge (b := 1000000) (by omega) (by decide)
    rw [wX_commonDivisor_13]
    refine br_f h1 ?_
    by_cases h0 : y = 0
    · subst h0
      rw [Nat.gcd_zero_right] at hp
      exact br_t nI_0 hp
    · have h2 : ¬ nI y = 0 := nI_ne0 (by omega) hy
      have hm : x % y < y := Nat.mod_lt _ (by omega)
      refine br_f h2 ⟨h2, nm_r (pk_rem hx (by omega) hy) (nm_r (nI_1 s) ?_)⟩
      refine ih (x % y) y (s + 1) (by omega) hy (by omega) (by omega) ?_
      rw [Nat.gcd_comm y, ← Nat.gcd_rec y x, Nat.gcd_comm]
      exact hp
theorem zz_abs {a : Int} (ha : a.natAbs < 2147483648) (h : 0 ≤ a) : zz_i a = nI a.natAbs := by
  rw [zz_n]; exact congrArg zz_i (by omega)
theorem zz_abn {a : Int} (ha : a.natAbs < 2147483648) (h : ¬ 0 ≤ a) : -zz_i a = nI a.natAbs := by
  rw [zz_n, zz_ineg]; exact congrArg zz_i (by omega)
theorem zz_lbs {a : Int} (h : 0 ≤ a) : zz_l a = lN a.natAbs := by
  rw [zz_nl]; exact congrArg zz_l (by omega)
theorem zz_lbn {a : Int} (h : ¬ 0 ≤ a) : -zz_l a = lN a.natAbs := by
  rw [zz_nl, zz_lneg]; exact congrArg zz_l (by omega)
theorem ze_mag (post : Int32 → Prop) {a : Int} (ha : a.natAbs < 2147483648) (hp : post (nI a.natAbs)) : wpX_magnitude post (zz_i a) := by
  by_cases h : 0 ≤ a
  · exact br_t ((zz_i0le ha).mpr h) (by rw [zz_abs ha h]; exact hp)
  · exact br_f (fun z => h ((zz_i0le ha).mp z)) (by rw [zz_abn ha h]; exact hp)
theorem ze_cd (post : Int32 → Prop) {a b : Int} (ha : a.natAbs < 900000) (hb : b.natAbs < 900000) (hp : post (zz_i (Int.gcd a b))) : wpX_commonDivisor post (zz_i a) (zz_i b) := by
  unfold wpX_commonDivisor
  refine ze_mag _ (by omega) (ze_mag _ (by omega) ⟨b.natAbs + 1, ?_⟩)
  refine ze_x post _ b.natAbs a.natAbs 0 (by omega) (by omega) (by omega) (by omega) ?_
  rw [zz_n]; exact hp
end
section
/-! determinants of order two to four by their last row, and the identities of a fraction-free elimination -/
def dt_2 (a0 b0 a1 b1 : Int) : Int := a0 * b1 - b0 * a1
def dt_3 (a0 b0 c0 a1 b1 c1 a2 b2 c2 : Int) : Int := a2 * dt_2 b0 c0 b1 c1 - b2 * dt_2 a0 c0 a1 c1 + c2 * dt_2 a0 b0 a1 b1
def dt_4 (a0 b0 c0 e0 a1 b1 c1 e1 a2 b2 c2 e2 a3 b3 c3 e3 : Int) : Int := b3 * dt_3 a0 c0 e0 a1 c1 e1 a2 c2 e2 - a3 * dt_3 b0 c0 e0 b1 c1 e1 b2 c2 e2 + e3 * dt_3 a0 b0 c0 a1 b1 c1 a2 b2 c2 - c3 * dt_3 a0 b0 e0 a1 b1 e1 a2 b2 e2
theorem dt_b2 {a0 b0 a1 b1 : Int} (ha0 : a0.natAbs ≤ 3) (hb0 : b0.natAbs ≤ 3) (ha1 : a1.natAbs ≤ 3) (hb1 : b1.natAbs ≤ 3) : (dt_2 a0 b0 a1 b1).natAbs ≤ 18 := by
  have h1 := zz_mb ha0 hb1
  have h2 := zz_mb hb0 ha1
  unfold dt_2
  omega
theorem dt_i1 (a0 j0 c0 a1 j1 c1 : Int) : c0 * dt_2 a0 j0 a1 j1 - dt_2 a0 c0 a1 c1 * j0 = a0 * dt_2 c0 j0 c1 j1 := by
  unfold dt_2; grind
theorem dt_i2 (a0 j0 c0 a1 j1 c1 aq jq cq : Int) : dt_2 a0 c0 aq cq * dt_2 a0 j0 a1 j1 - dt_2 a0 c0 a1 c1 * dt_2 a0 j0 aq jq = a0 * dt_3 a0 j0 c0 a1 j1 c1 aq jq cq := by
  unfold dt_3 dt_2; grind
theorem dt_i3 (a0 b0 j0 c0 a1 b1 j1 c1 a2 b2 j2 c2 : Int) : dt_2 c0 b0 c1 b1 * dt_3 a0 b0 j0 a1 b1 j1 a2 b2 j2 - dt_3 a0 b0 c0 a1 b1 c1 a2 b2 c2 * dt_2 j0 b0 j1 b1 = dt_2 a0 b0 a1 b1 * dt_3 c0 b0 j0 c1 b1 j1 c2 b2 j2 := by
  unfold dt_3 dt_2; grind
theorem dt_i4 (a0 b0 j0 c0 a1 b1 j1 c1 a2 b2 j2 c2 : Int) : dt_2 a0 c0 a1 c1 * dt_3 a0 b0 j0 a1 b1 j1 a2 b2 j2 - dt_3 a0 b0 c0 a1 b1 c1 a2 b2 c2 * dt_2 a0 j0 a1 j1 = dt_2 a0 b0 a1 b1 * dt_3 a0 c0 j0 a1 c1 j1 a2 c2 j2 := by
  unfold dt_3 dt_2; grind
theorem dt_i5 (a0 b0 j0 c0 a1 b1 j1 c1 a2 b2 j2 c2 a3 b3 j3 c3 : Int) : dt_3 a0 b0 c0 a1 b1 c1 a3 b3 c3 * dt_3 a0 b0 j0 a1 b1 j1 a2 b2 j2 - dt_3 a0 b0 c0 a1 b1 c1 a2 b2 c2 * dt_3 a0 b0 j0 a1 b1 j1 a3 b3 j3 = dt_2 a0 b0 a1 b1 * dt_4 a0 b0 j0 c0 a1 b1 j1 c1 a2 b2 j2 c2 a3 b3 j3 c3 := by
  unfold dt_4 dt_3 dt_2; grind
theorem dt_i6 (a0 b0 e0 j0 c0 a1 b1 e1 j1 c1 a2 b2 e2 j2 c2 a3 b3 e3 j3 c3 : Int) : dt_3 c0 b0 e0 c1 b1 e1 c2 b2 e2 * dt_4 a0 b0 e0 j0 a1 b1 e1 j1 a2 b2 e2 j2 a3 b3 e3 j3 - dt_4 a0 b0 e0 c0 a1 b1 e1 c1 a2 b2 e2 c2 a3 b3 e3 c3 * dt_3 j0 b0 e0 j1 b1 e1 j2 b2 e2 = dt_3 a0 b0 e0 a1 b1 e1 a2 b2 e2 * dt_4 c0 b0 e0 j0 c1 b1 e1 j1 c2 b2 e2 j2 c3 b3 e3 j3 := by
  unfold dt_4 dt_3 dt_2; grind
theorem dt_i7 (a0 b0 e0 j0 c0 a1 b1 e1 j1 c1 a2 b2 e2 j2 c2 a3 b3 e3 j3 c3 : Int) : dt_3 a0 c0 e0 a1 c1 e1 a2 c2 e2 * dt_4 a0 b0 e0 j0 a1 b1 e1 j1 a2 b2 e2 j2 a3 b3 e3 j3 - dt_4 a0 b0 e0 c0 a1 b1 e1 c1 a2 b2 e2 c2 a3 b3 e3 c3 * dt_3 a0 j0 e0 a1 j1 e1 a2 j2 e2 = dt_3 a0 b0 e0 a1 b1 e1 a2 b2 e2 * dt_4 a0 c0 e0 j0 a1 c1 e1 j1 a2 c2 e2 j2 a3 c3 e3 j3 := by
  unfold dt_4 dt_3 dt_2; grind
theorem dt_i8 (a0 b0 e0 j0 c0 a1 b1 e1 j1 c1 a2 b2 e2 j2 c2 a3 b3 e3 j3 c3 : Int) : dt_3 a0 b0 c0 a1 b1 c1 a2 b2 c2 * dt_4 a0 b0 e0 j0 a1 b1 e1 j1 a2 b2 e2 j2 a3 b3 e3 j3 - dt_4 a0 b0 e0 c0 a1 b1 e1 c1 a2 b2 e2 c2 a3 b3 e3 c3 * dt_3 a0 b0 j0 a1 b1 j1 a2 b2 j2 = dt_3 a0 b0 e0 a1 b1 e1 a2 b2 e2 * dt_4 a0 b0 c0 j0 a1 b1 c1 j1 a2 b2 c2 j2 a3 b3 c3 j3 := by
  unfold dt_4 dt_3 dt_2; grind
theorem dt_b3 {a0 b0 c0 a1 b1 c1 a2 b2 c2 : Int} (ha0 : a0.natAbs ≤ 3) (hb0 : b0.natAbs ≤ 3) (hc0 : c0.natAbs ≤ 3) (ha1 : a1.natAbs ≤ 3) (hb1 : b1.natAbs ≤ 3) (hc1 : c1.natAbs ≤ 3) (ha2 : a2.natAbs ≤ 3) (hb2 : b2.natAbs ≤ 3) (hc2 : c2.natAbs ≤ 3) : (dt_3 a0 b0 c0 a1 b1 c1 a2 b2 c2).natAbs ≤ 162 := by
  have ma := zz_mb ha2 (dt_b2 hb0 hc0 hb1 hc1)
  have mb := zz_mb hb2 (dt_b2 ha0 hc0 ha1 hc1)
  have mc := zz_mb hc2 (dt_b2 ha0 hb0 ha1 hb1)
  unfold dt_3
  omega
theorem dt_b4 {a0 b0 c0 e0 a1 b1 c1 e1 a2 b2 c2 e2 a3 b3 c3 e3 : Int} (ha0 : a0.natAbs ≤ 3) (hb0 : b0.natAbs ≤ 3) (hc0 : c0.natAbs ≤ 3) (he0 : e0.natAbs ≤ 3) (ha1 : a1.natAbs ≤ 3) (hb1 : b1.natAbs ≤ 3) (hc1 : c1.natAbs ≤ 3) (he1 : e1.natAbs ≤ 3) (ha2 : a2.natAbs ≤ 3) (hb2 : b2.natAbs ≤ 3) (hc2 : c2.natAbs ≤ 3) (he2 : e2.natAbs ≤ 3) (ha3 : a3.natAbs ≤ 3) (hb3 : b3.natAbs ≤ 3) (hc3 : c3.natAbs ≤ 3) (he3 : e3.natAbs ≤ 3) : (dt_4 a0 b0 c0 e0 a1 b1 c1 e1 a2 b2 c2 e2 a3 b3 c3 e3).natAbs ≤ 1944 := by
  have ma := zz_mb ha3 (dt_b3 hb0 hc0 he0 hb1 hc1 he1 hb2 hc2 he2)
  have mb := zz_mb hb3 (dt_b3 ha0 hc0 he0 ha1 hc1 he1 ha2 hc2 he2)
  have mc := zz_mb hc3 (dt_b3 ha0 hb0 he0 ha1 hb1 he1 ha2 hb2 he2)
  have me := zz_mb he3 (dt_b3 ha0 hb0 hc0 ha1 hb1 hc1 ha2 hb2 hc2)
  unfold dt_4
  omega
end
section
/-! the pure elimination: what the matrix is after k pivots, and a step -/
def el_F (R : Nat → Nat → Int) (p : Nat → Nat) : Nat → Nat → Nat → Int
  | 0, q, c => R q c
  | 1, 0, c => R 0 c
  | 1, q + 1, c => dt_2 (R 0 (p 0)) (R 0 c) (R (q + 1) (p 0)) (R (q + 1) c)
  | 2, 0, c => dt_2 (R 0 c) (R 0 (p 1)) (R 1 c) (R 1 (p 1))
  | 2, 1, c => dt_2 (R 0 (p 0)) (R 0 c) (R 1 (p 0)) (R 1 c)
  | 2, q + 2, c => dt_3 (R 0 (p 0)) (R 0 (p 1)) (R 0 c) (R 1 (p 0)) (R 1 (p 1)) (R 1 c) (R (q + 2) (p 0)) (R (q + 2) (p 1)) (R (q + 2) c)
  | 3, 0, c => dt_3 (R 0 c) (R 0 (p 1)) (R 0 (p 2)) (R 1 c) (R 1 (p 1)) (R 1 (p 2)) (R 2 c) (R 2 (p 1)) (R 2 (p 2))
  | 3, 1, c => dt_3 (R 0 (p 0)) (R 0 c) (R 0 (p 2)) (R 1 (p 0)) (R 1 c) (R 1 (p 2)) (R 2 (p 0)) (R 2 c) (R 2 (p 2))
  | 3, 2, c => dt_3 (R 0 (p 0)) (R 0 (p 1)) (R 0 c) (R 1 (p 0)) (R 1 (p 1)) (R 1 c) (R 2 (p 0)) (R 2 (p 1)) (R 2 c)
  | 3, q + 3, c => dt_4 (R 0 (p 0)) (R 0 (p 1)) (R 0 (p 2)) (R 0 c) (R 1 (p 0)) (R 1 (p 1)) (R 1 (p 2)) (R 1 c) (R 2 (p 0)) (R 2 (p 1)) (R 2 (p 2)) (R 2 c) (R (q + 3) (p 0)) (R (q + 3) (p 1)) (R (q + 3) (p 2)) (R (q + 3) c)
  | 4, 0, c => dt_4 (R 0 c) (R 0 (p 1)) (R 0 (p 2)) (R 0 (p 3)) (R 1 c) (R 1 (p 1)) (R 1 (p 2)) (R 1 (p 3)) (R 2 c) (R 2 (p 1)) (R 2 (p 2)) (R 2 (p 3)) (R 3 c) (R 3 (p 1)) (R 3 (p 2)) (R 3 (p 3))
  | 4, 1, c => dt_4 (R 0 (p 0)) (R 0 c) (R 0 (p 2)) (R 0 (p 3)) (R 1 (p 0)) (R 1 c) (R 1 (p 2)) (R 1 (p 3)) (R 2 (p 0)) (R 2 c) (R 2 (p 2)) (R 2 (p 3)) (R 3 (p 0)) (R 3 c) (R 3 (p 2)) (R 3 (p 3))
  | 4, 2, c => dt_4 (R 0 (p 0)) (R 0 (p 1)) (R 0 c) (R 0 (p 3)) (R 1 (p 0)) (R 1 (p 1)) (R 1 c) (R 1 (p 3)) (R 2 (p 0)) (R 2 (p 1)) (R 2 c) (R 2 (p 3)) (R 3 (p 0)) (R 3 (p 1)) (R 3 c) (R 3 (p 3))
  | 4, 3, c => dt_4 (R 0 (p 0)) (R 0 (p 1)) (R 0 (p 2)) (R 0 c) (R 1 (p 0)) (R 1 (p 1)) (R 1 (p 2)) (R 1 c) (R 2 (p 0)) (R 2 (p 1)) (R 2 (p 2)) (R 2 c) (R 3 (p 0)) (R 3 (p 1)) (R 3 (p 2)) (R 3 c)
  | _, _, _ => 0
def el_D (R : Nat → Nat → Int) (p : Nat → Nat) : Nat → Int
  | 0 => 1
  | 1 => R 0 (p 0)
  | 2 => dt_2 (R 0 (p 0)) (R 0 (p 1)) (R 1 (p 0)) (R 1 (p 1))
  | 3 => dt_3 (R 0 (p 0)) (R 0 (p 1)) (R 0 (p 2)) (R 1 (p 0)) (R 1 (p 1)) (R 1 (p 2)) (R 2 (p 0)) (R 2 (p 1)) (R 2 (p 2))
  | 4 => dt_4 (R 0 (p 0)) (R 0 (p 1)) (R 0 (p 2)) (R 0 (p 3)) (R 1 (p 0)) (R 1 (p 1)) (R 1 (p 2)) (R 1 (p 3)) (R 2 (p 0)) (R 2 (p 1)) (R 2 (p 2)) (R 2 (p 3)) (R 3 (p 0)) (R 3 (p 1)) (R 3 (p 2)) (R 3 (p 3))
  | _ => 0
theorem el_c4 {P : Nat → Prop} (h0 : P 0) (h1 : P 1) (h2 : P 2) (h3 : P 3) {i : Nat} (hi : i < 4) : P i := by
  match i, hi with
  | 0, _ => exact h0
  | 1, _ => exact h1
  | 2, _ => exact h2
  | 3, _ => exact h3
theorem el_step (R : Nat → Nat → Int) (p : Nat → Nat) (j c : Nat) : ∀ k, k < 4 → ∀ q, q < 4 → q ≠ k → el_F R p k q c * el_F R p k k j - el_F R p k k c * el_F R p k q j = el_D R p k * el_F R (fun i => if i = k then j else p i) (k + 1) q c := by
  refine fun k hk => el_c4 (P := fun k => ∀ q, q < 4 → q ≠ k → el_F R p k q c * el_F R p k k j - el_F R p k k c * el_F R p k q j = el_D R p k * el_F R (fun i => if i = k then j else p i) (k + 1) q c) ?_ ?_ ?_ ?_ hk
  · refine fun q hq => el_c4 (P := fun q => q ≠ 0 → el_F R p 0 q c * el_F R p 0 0 j - el_F R p 0 0 c * el_F R p 0 q j = el_D R p 0 * el_F R (fun i => if i = 0 then j else p i) (0 + 1) q c) ?_ ?_ ?_ ?_ hq
    · intro h; exact absurd rfl h
    · intro _
      show R 1 c * R 0 j - R 0 c * R 1 j = 1 * dt_2 (R 0 j) (R 0 c) (R 1 j) (R 1 c)
      unfold dt_2; grind
    · intro _
      show R 2 c * R 0 j - R 0 c * R 2 j = 1 * dt_2 (R 0 j) (R 0 c) (R 2 j) (R 2 c)
      unfold dt_2; grind
    · intro _
      show R 3 c * R 0 j - R 0 c * R 3 j = 1 * dt_2 (R 0 j) (R 0 c) (R 3 j) (R 3 c)
      unfold dt_2; grind
  · refine fun q hq => el_c4 (P := fun q => q ≠ 1 → el_F R p 1 q c * el_F R p 1 1 j - el_F R p 1 1 c * el_F R p 1 q j = el_D R p 1 * el_F R (fun i => if i = 1 then j else p i) (1 + 1) q c) ?_ ?_ ?_ ?_ hq
    · intro _
      exact dt_i1 (R 0 (p 0)) (R 0 (j)) (R 0 (c)) (R 1 (p 0)) (R 1 (j)) (R 1 (c))
    · intro h; exact absurd rfl h
    · intro _
      exact dt_i2 (R 0 (p 0)) (R 0 (j)) (R 0 (c)) (R 1 (p 0)) (R 1 (j)) (R 1 (c)) (R 2 (p 0)) (R 2 (j)) (R 2 (c))
    · intro _
      exact dt_i2 (R 0 (p 0)) (R 0 (j)) (R 0 (c)) (R 1 (p 0)) (R 1 (j)) (R 1 (c)) (R 3 (p 0)) (R 3 (j)) (R 3 (c))
  · refine fun q hq => el_c4 (P := fun q => q ≠ 2 → el_F R p 2 q c * el_F R p 2 2 j - el_F R p 2 2 c * el_F R p 2 q j = el_D R p 2 * el_F R (fun i => if i = 2 then j else p i) (2 + 1) q c) ?_ ?_ ?_ ?_ hq
    · intro _
      exact dt_i3 (R 0 (p 0)) (R 0 (p 1)) (R 0 (j)) (R 0 (c)) (R 1 (p 0)) (R 1 (p 1)) (R 1 (j)) (R 1 (c)) (R 2 (p 0)) (R 2 (p 1)) (R 2 (j)) (R 2 (c))
    · intro _
      exact dt_i4 (R 0 (p 0)) (R 0 (p 1)) (R 0 (j)) (R 0 (c)) (R 1 (p 0)) (R 1 (p 1)) (R 1 (j)) (R 1 (c)) (R 2 (p 0)) (R 2 (p 1)) (R 2 (j)) (R 2 (c))
    · intro h; exact absurd rfl h
    · intro _
      exact dt_i5 (R 0 (p 0)) (R 0 (p 1)) (R 0 (j)) (R 0 (c)) (R 1 (p 0)) (R 1 (p 1)) (R 1 (j)) (R 1 (c)) (R 2 (p 0)) (R 2 (p 1)) (R 2 (j)) (R 2 (c)) (R 3 (p 0)) (R 3 (p 1)) (R 3 (j)) (R 3 (c))
  · refine fun q hq => el_c4 (P := fun q => q ≠ 3 → el_F R p 3 q c * el_F R p 3 3 j - el_F R p 3 3 c * el_F R p 3 q j = el_D R p 3 * el_F R (fun i => if i = 3 then j else p i) (3 + 1) q c) ?_ ?_ ?_ ?_ hq
    · intro _
      exact dt_i6 (R 0 (p 0)) (R 0 (p 1)) (R 0 (p 2)) (R 0 (j)) (R 0 (c)) (R 1 (p 0)) (R 1 (p 1)) (R 1 (p 2)) (R 1 (j)) (R 1 (c)) (R 2 (p 0)) (R 2 (p 1)) (R 2 (p 2)) (R 2 (j)) (R 2 (c)) (R 3 (p 0)) (R 3 (p 1)) (R 3 (p 2)) (R 3 (j)) (R 3 (c))
    · intro _
      exact dt_i7 (R 0 (p 0)) (R 0 (p 1)) (R 0 (p 2)) (R 0 (j)) (R 0 (c)) (R 1 (p 0)) (R 1 (p 1)) (R 1 (p 2)) (R 1 (j)) (R 1 (c)) (R 2 (p 0)) (R 2 (p 1)) (R 2 (p 2)) (R 2 (j)) (R 2 (c)) (R 3 (p 0)) (R 3 (p 1)) (R 3 (p 2)) (R 3 (j)) (R 3 (c))
    · intro _
      exact dt_i8 (R 0 (p 0)) (R 0 (p 1)) (R 0 (p 2)) (R 0 (j)) (R 0 (c)) (R 1 (p 0)) (R 1 (p 1)) (R 1 (p 2)) (R 1 (j)) (R 1 (c)) (R 2 (p 0)) (R 2 (p 1)) (R 2 (p 2)) (R 2 (j)) (R 2 (c)) (R 3 (p 0)) (R 3 (p 1)) (R 3 (p 2)) (R 3 (j)) (R 3 (c))
    · intro h; exact absurd rfl h
theorem el_row (R : Nat → Nat → Int) (p : Nat → Nat) (j c : Nat) : ∀ k, k < 4 → el_F R p k k c = el_F R (fun i => if i = k then j else p i) (k + 1) k c :=
  fun k hk => el_c4 (P := fun k => el_F R p k k c = el_F R (fun i => if i = k then j else p i) (k + 1) k c) rfl rfl rfl rfl hk
theorem el_piv (R : Nat → Nat → Int) (p : Nat → Nat) (j : Nat) : ∀ k, k < 4 → el_D R (fun i => if i = k then j else p i) (k + 1) = el_F R p k k j :=
  fun k hk => el_c4 (P := fun k => el_D R (fun i => if i = k then j else p i) (k + 1) = el_F R p k k j) rfl rfl rfl rfl hk
theorem el_c5 {P : Nat → Prop} (h0 : P 0) (h1 : P 1) (h2 : P 2) (h3 : P 3) (h4 : P 4) {i : Nat} (hi : i ≤ 4) : P i := by
  match i, hi with
  | 0, _ => exact h0
  | 1, _ => exact h1
  | 2, _ => exact h2
  | 3, _ => exact h3
  | 4, _ => exact h4
theorem el_dia (R : Nat → Nat → Int) (p : Nat → Nat) : ∀ k, k ≤ 4 → ∀ i, i < k → el_F R p k i (p i) = el_D R p k := by
  refine fun k hk => el_c5 (P := fun k => ∀ i, i < k → el_F R p k i (p i) = el_D R p k) ?_ ?_ ?_ ?_ ?_ hk
  · intro i hi; omega
  · intro i hi
    match i, hi with
    | 0, _ => rfl
  · intro i hi
    match i, hi with
    | 0, _ => rfl
    | 1, _ => rfl
  · intro i hi
    match i, hi with
    | 0, _ => rfl
    | 1, _ => rfl
    | 2, _ => rfl
  · intro i hi
    match i, hi with
    | 0, _ => rfl
    | 1, _ => rfl
    | 2, _ => rfl
    | 3, _ => rfl
def el_S (R : Nat → Nat → Int) (s t : Nat) : Nat → Nat → Int := fun q c => if q = s then R t c else if q = t then R s c else R q c
end
section
/-! exchange of rows, bounds, the state of an elimination and its invariant -/
theorem el_sw (R : Nat → Nat → Int) (p : Nat → Nat) (c : Nat) : ∀ k, k < 4 → ∀ t, t < 4 → k ≤ t → ∀ q, q < 4 → el_F (el_S R k t) p k q c = if q = k then el_F R p k t c else if q = t then el_F R p k k c else el_F R p k q c := by
  refine fun k hk => el_c4 (P := fun k => ∀ t, t < 4 → k ≤ t → ∀ q, q < 4 → el_F (el_S R k t) p k q c = if q = k then el_F R p k t c else if q = t then el_F R p k k c else el_F R p k q c) ?_ ?_ ?_ ?_ hk
  · refine fun t ht => el_c4 (P := fun t => 0 ≤ t → ∀ q, q < 4 → el_F (el_S R 0 t) p 0 q c = if q = 0 then el_F R p 0 t c else if q = t then el_F R p 0 0 c else el_F R p 0 q c) ?_ ?_ ?_ ?_ ht
    · exact fun _ q hq => el_c4 (P := fun q => el_F (el_S R 0 0) p 0 q c = if q = 0 then el_F R p 0 0 c else if q = 0 then el_F R p 0 0 c else el_F R p 0 q c) rfl rfl rfl rfl hq
    · exact fun _ q hq => el_c4 (P := fun q => el_F (el_S R 0 1) p 0 q c = if q = 0 then el_F R p 0 1 c else if q = 1 then el_F R p 0 0 c else el_F R p 0 q c) rfl rfl rfl rfl hq
    · exact fun _ q hq => el_c4 (P := fun q => el_F (el_S R 0 2) p 0 q c = if q = 0 then el_F R p 0 2 c else if q = 2 then el_F R p 0 0 c else el_F R p 0 q c) rfl rfl rfl rfl hq
    · exact fun _ q hq => el_c4 (P := fun q => el_F (el_S R 0 3) p 0 q c = if q = 0 then el_F R p 0 3 c else if q = 3 then el_F R p 0 0 c else el_F R p 0 q c) rfl rfl rfl rfl hq
  · refine fun t ht => el_c4 (P := fun t => 1 ≤ t → ∀ q, q < 4 → el_F (el_S R 1 t) p 1 q c = if q = 1 then el_F R p 1 t c else if q = t then el_F R p 1 1 c else el_F R p 1 q c) ?_ ?_ ?_ ?_ ht
    · intro h; omega
    · exact fun _ q hq => el_c4 (P := fun q => el_F (el_S R 1 1) p 1 q c = if q = 1 then el_F R p 1 1 c else if q = 1 then el_F R p 1 1 c else el_F R p 1 q c) rfl rfl rfl rfl hq
    · exact fun _ q hq => el_c4 (P := fun q => el_F (el_S R 1 2) p 1 q c = if q = 1 then el_F R p 1 2 c else if q = 2 then el_F R p 1 1 c else el_F R p 1 q c) rfl rfl rfl rfl hq
    · exact fun _ q hq => el_c4 (P := fun q => el_F (el_S R 1 3) p 1 q c = if q = 1 then el_F R p 1 3 c else if q = 3 then el_F R p 1 1 c else el_F R p 1 q c) rfl rfl rfl rfl hq
  · refine fun t ht => el_c4 (P := fun t => 2 ≤ t → ∀ q, q < 4 → el_F (el_S R 2 t) p 2 q c = if q = 2 then el_F R p 2 t c else if q = t then el_F R p 2 2 c else el_F R p 2 q c) ?_ ?_ ?_ ?_ ht
    · intro h; omega
    · intro h; omega
    · exact fun _ q hq => el_c4 (P := fun q => el_F (el_S R 2 2) p 2 q c = if q = 2 then el_F R p 2 2 c else if q = 2 then el_F R p 2 2 c else el_F R p 2 q c) rfl rfl rfl rfl hq
    · exact fun _ q hq => el_c4 (P := fun q => el_F (el_S R 2 3) p 2 q c = if q = 2 then el_F R p 2 3 c else if q = 3 then el_F R p 2 2 c else el_F R p 2 q c) rfl rfl rfl rfl hq
  · refine fun t ht => el_c4 (P := fun t => 3 ≤ t → ∀ q, q < 4 → el_F (el_S R 3 t) p 3 q c = if q = 3 then el_F R p 3 t c else if q = t then el_F R p 3 3 c else el_F R p 3 q c) ?_ ?_ ?_ ?_ ht
    · intro h; omega
    · intro h; omega
    · intro h; omega
    · exact fun _ q hq => el_c4 (P := fun q => el_F (el_S R 3 3) p 3 q c = if q = 3 then el_F R p 3 3 c else if q = 3 then el_F R p 3 3 c else el_F R p 3 q c) rfl rfl rfl rfl hq
theorem el_swD (R : Nat → Nat → Int) (p : Nat → Nat) : ∀ k, k < 4 → ∀ t, t < 4 → k ≤ t → el_D (el_S R k t) p k = el_D R p k := by
  refine fun k hk => el_c4 (P := fun k => ∀ t, t < 4 → k ≤ t → el_D (el_S R k t) p k = el_D R p k) ?_ ?_ ?_ ?_ hk
  · refine fun t ht => el_c4 (P := fun t => 0 ≤ t → el_D (el_S R 0 t) p 0 = el_D R p 0) ?_ ?_ ?_ ?_ ht
    · exact fun _ => rfl
    · exact fun _ => rfl
    · exact fun _ => rfl
    · exact fun _ => rfl
  · refine fun t ht => el_c4 (P := fun t => 1 ≤ t → el_D (el_S R 1 t) p 1 = el_D R p 1) ?_ ?_ ?_ ?_ ht
    · intro h; omega
    · exact fun _ => rfl
    · exact fun _ => rfl
    · exact fun _ => rfl
  · refine fun t ht => el_c4 (P := fun t => 2 ≤ t → el_D (el_S R 2 t) p 2 = el_D R p 2) ?_ ?_ ?_ ?_ ht
    · intro h; omega
    · intro h; omega
    · exact fun _ => rfl
    · exact fun _ => rfl
  · refine fun t ht => el_c4 (P := fun t => 3 ≤ t → el_D (el_S R 3 t) p 3 = el_D R p 3) ?_ ?_ ?_ ?_ ht
    · intro h; omega
    · intro h; omega
    · intro h; omega
    · exact fun _ => rfl
theorem el_bd (R : Nat → Nat → Int) (p : Nat → Nat) (c : Nat) (hR : ∀ q c, (R q c).natAbs ≤ 3) : ∀ k, k ≤ 4 → ∀ q, q < 4 → (el_F R p k q c).natAbs ≤ 1944 := by
  refine fun k hk => el_c5 (P := fun k => ∀ q, q < 4 → (el_F R p k q c).natAbs ≤ 1944) ?_ ?_ ?_ ?_ ?_ hk
  · refine fun q hq => el_c4 (P := fun q => (el_F R p 0 q c).natAbs ≤ 1944) ?_ ?_ ?_ ?_ hq
    · exact Nat.le_trans (hR _ _) (by decide)
    · exact Nat.le_trans (hR _ _) (by decide)
    · exact Nat.le_trans (hR _ _) (by decide)
    · exact Nat.le_trans (hR _ _) (by decide)
  · refine fun q hq => el_c4 (P := fun q => (el_F R p 1 q c).natAbs ≤ 1944) ?_ ?_ ?_ ?_ hq
    · exact Nat.le_trans (hR _ _) (by decide)
    · exact Nat.le_trans (dt_b2 (hR _ _) (hR _ _) (hR _ _) (hR _ _)) (by decide)
    · exact Nat.le_trans (dt_b2 (hR _ _) (hR _ _) (hR _ _) (hR _ _)) (by decide)
    · exact Nat.le_trans (dt_b2 (hR _ _) (hR _ _) (hR _ _) (hR _ _)) (by decide)
  · refine fun q hq => el_c4 (P := fun q => (el_F R p 2 q c).natAbs ≤ 1944) ?_ ?_ ?_ ?_ hq
    · exact Nat.le_trans (dt_b2 (hR _ _) (hR _ _) (hR _ _) (hR _ _)) (by decide)
    · exact Nat.le_trans (dt_b2 (hR _ _) (hR _ _) (hR _ _) (hR _ _)) (by decide)
    · exact Nat.le_trans (dt_b3 (hR _ _) (hR _ _) (hR _ _) (hR _ _) (hR _ _) (hR _ _) (hR _ _) (hR _ _) (hR _ _)) (by decide)
    · exact Nat.le_trans (dt_b3 (hR _ _) (hR _ _) (hR _ _) (hR _ _) (hR _ _) (hR _ _) (hR _ _) (hR _ _) (hR _ _)) (by decide)
  · refine fun q hq => el_c4 (P := fun q => (el_F R p 3 q c).natAbs ≤ 1944) ?_ ?_ ?_ ?_ hq
    · exact Nat.le_trans (dt_b3 (hR _ _) (hR _ _) (hR _ _) (hR _ _) (hR _ _) (hR _ _) (hR _ _) (hR _ _) (hR _ _)) (by decide)
    · exact Nat.le_trans (dt_b3 (hR _ _) (hR _ _) (hR _ _) (hR _ _) (hR _ _) (hR _ _) (hR _ _) (hR _ _) (hR _ _)) (by decide)
    · exact Nat.le_trans (dt_b3 (hR _ _) (hR _ _) (hR _ _) (hR _ _) (hR _ _) (hR _ _) (hR _ _) (hR _ _) (hR _ _)) (by decide)
    · exact Nat.le_trans (dt_b4 (hR _ _) (hR _ _) (hR _ _) (hR _ _) (hR _ _) (hR _ _) (hR _ _) (hR _ _) (hR _ _) (hR _ _) (hR _ _) (hR _ _) (hR _ _) (hR _ _) (hR _ _) (hR _ _)) (by decide)
  · refine fun q hq => el_c4 (P := fun q => (el_F R p 4 q c).natAbs ≤ 1944) ?_ ?_ ?_ ?_ hq
    · exact Nat.le_trans (dt_b4 (hR _ _) (hR _ _) (hR _ _) (hR _ _) (hR _ _) (hR _ _) (hR _ _) (hR _ _) (hR _ _) (hR _ _) (hR _ _) (hR _ _) (hR _ _) (hR _ _) (hR _ _) (hR _ _)) (by decide)
    · exact Nat.le_trans (dt_b4 (hR _ _) (hR _ _) (hR _ _) (hR _ _) (hR _ _) (hR _ _) (hR _ _) (hR _ _) (hR _ _) (hR _ _) (hR _ _) (hR _ _) (hR _ _) (hR _ _) (hR _ _) (hR _ _)) (by decide)
    · exact Nat.le_trans (dt_b4 (hR _ _) (hR _ _) (hR _ _) (hR _ _) (hR _ _) (hR _ _) (hR _ _) (hR _ _) (hR _ _) (hR _ _) (hR _ _) (hR _ _) (hR _ _) (hR _ _) (hR _ _) (hR _ _)) (by decide)
    · exact Nat.le_trans (dt_b4 (hR _ _) (hR _ _) (hR _ _) (hR _ _) (hR _ _) (hR _ _) (hR _ _) (hR _ _) (hR _ _) (hR _ _) (hR _ _) (hR _ _) (hR _ _) (hR _ _) (hR _ _) (hR _ _)) (by decide)
theorem el_bD (R : Nat → Nat → Int) (p : Nat → Nat) (hR : ∀ q c, (R q c).natAbs ≤ 3) : ∀ k, k ≤ 4 → (el_D R p k).natAbs ≤ 1944 := by
  refine fun k hk => el_c5 (P := fun k => (el_D R p k).natAbs ≤ 1944) ?_ ?_ ?_ ?_ ?_ hk
  · show (1 : Int).natAbs ≤ 1944; decide
  · exact Nat.le_trans (hR _ _) (by decide)
  · exact Nat.le_trans (dt_b2 (hR _ _) (hR _ _) (hR _ _) (hR _ _)) (by decide)
  · exact Nat.le_trans (dt_b3 (hR _ _) (hR _ _) (hR _ _) (hR _ _) (hR _ _) (hR _ _) (hR _ _) (hR _ _) (hR _ _)) (by decide)
  · exact Nat.le_trans (dt_b4 (hR _ _) (hR _ _) (hR _ _) (hR _ _) (hR _ _) (hR _ _) (hR _ _) (hR _ _) (hR _ _) (hR _ _) (hR _ _) (hR _ _) (hR _ _) (hR _ _) (hR _ _) (hR _ _)) (by decide)
def es_sw (W : Nat → Int) (s t : Nat) : Nat → Int := fun i => if i / 8 = s then W (8 * t + i % 8) else if i / 8 = t then W (8 * s + i % 8) else W i
def es_cl (W : Nat → Int) (m k j : Nat) (d : Int) : Nat → Int := fun i => if i / 8 < m ∧ i / 8 ≠ k then (W i * W (8 * k + j) - W (8 * k + i % 8) * W (8 * (i / 8) + j)).tdiv d else W i
def es_pv (W : Nat → Int) (j : Nat) : Nat → Nat → Nat
  | 0, s => s
  | n + 1, s => if W (8 * s + j) = 0 then es_pv W j n (s + 1) else s
theorem es_pvS (W : Nat → Int) (j : Nat) : ∀ n s, s ≤ es_pv W j n s ∧ es_pv W j n s ≤ s + n ∧ (∀ q, s ≤ q → q < es_pv W j n s → W (8 * q + j) = 0) ∧ (es_pv W j n s < s + n → W (8 * es_pv W j n s + j) ≠ 0) := by
  intro n
  induction n with
  | zero => intro s; exact ⟨Nat.le_refl _, Nat.le_refl _, fun q h1 h2 => by unfold es_pv at h2; omega, fun h => by unfold es_pv at h; omega⟩
  | succ n ih =>
    intro s
    obtain ⟨h1, h2, h3, h4⟩ := ih (s + 1)
    by_cases h : W (8 * s + j) = 0
    · have e : es_pv W j (n + 1) s = es_pv W j n (s + 1) := if_pos h
      rw [e]
      refine ⟨by omega, by omega, fun q hq1 hq2 => ?_, fun z => h4 (by omega)⟩
      by_cases hs : q = s
      · rw [hs]; exact h
      · exact h3 q (by omega) hq2
    · have e : es_pv W j (n + 1) s = s := if_neg h
      rw [e]
      exact ⟨Nat.le_refl _, by omega, fun q h1 h2 => by omega, fun _ => h⟩
abbrev es_T : Type := (Nat → Int) × Nat × Nat × Nat × Int × (Nat → Nat)
def es_t (m j : Nat) (e : es_T) : Nat := es_pv e.1 j (m - e.2.1) e.2.1
def es_st (m S j : Nat) (e : es_T) : es_T :=
  if S.testBit j = true then
    if es_t m j e < m then (es_cl (es_sw e.1 e.2.1 (es_t m j e)) m e.2.1 j e.2.2.2.2.1, e.2.1 + 1, e.2.2.1, e.2.2.2.1, es_sw e.1 e.2.1 (es_t m j e) (8 * e.2.1 + j), fun i => if i = e.2.1 then j else e.2.2.2.2.2 i)
    else (e.1, e.2.1, e.2.2.1 + 1, j, e.2.2.2.2.1, e.2.2.2.2.2)
  else e
def es_run (m S : Nat) (T : Nat → Int) : Nat → es_T
  | 0 => (T, 0, 0, 0, 1, fun _ => 0)
  | j + 1 => es_st m S j (es_run m S T j)
theorem es_a {m S j : Nat} {e : es_T} (h : ¬ S.testBit j = true) : es_st m S j e = e := if_neg h
theorem es_b {m S j : Nat} {e : es_T} (h : S.testBit j = true) (ht : es_t m j e < m) : es_st m S j e = (es_cl (es_sw e.1 e.2.1 (es_t m j e)) m e.2.1 j e.2.2.2.2.1, e.2.1 + 1, e.2.2.1, e.2.2.2.1, es_sw e.1 e.2.1 (es_t m j e) (8 * e.2.1 + j), fun i => if i = e.2.1 then j else e.2.2.2.2.2 i) := by
  unfold es_st; rw [if_pos h, if_pos ht]
theorem es_c {m S j : Nat} {e : es_T} (h : S.testBit j = true) (ht : ¬ es_t m j e < m) : es_st m S j e = (e.1, e.2.1, e.2.2.1 + 1, j, e.2.2.2.2.1, e.2.2.2.2.2) := by
  unfold es_st; rw [if_pos h, if_neg ht]
/-- the invariant: the matrix is that of the minors of the exchanged table -/
def es_I (m j : Nat) (e : es_T) : Prop := ∃ R : Nat → Nat → Int, (∀ q c, (R q c).natAbs ≤ 3) ∧ (∀ q, q < m → ∀ c, c < 8 → e.1 (8 * q + c) = el_F R e.2.2.2.2.2 e.2.1 q c) ∧ e.2.2.2.2.1 = el_D R e.2.2.2.2.2 e.2.1 ∧ e.2.2.2.2.1 ≠ 0 ∧ e.2.1 ≤ m ∧ ∀ i, i < e.2.1 → e.2.2.2.2.2 i < j
theorem es_tm {m j : Nat} {e : es_T} (hk : e.2.1 ≤ m) : e.2.1 ≤ es_t m j e ∧ es_t m j e ≤ m ∧ (∀ q, e.2.1 ≤ q → q < es_t m j e → e.1 (8 * q + j) = 0) ∧ (es_t m j e < m → e.1 (8 * es_t m j e + j) ≠ 0) := by
  obtain ⟨h1, h2, h3, h4⟩ := es_pvS e.1 j (m - e.2.1) e.2.1
  exact ⟨h1, by unfold es_t; omega, h3, fun h => h4 (by unfold es_t at h; omega)⟩
theorem es_swv (W : Nat → Int) {s t q c : Nat} (hc : c < 8) : es_sw W s t (8 * q + c) = if q = s then W (8 * t + c) else if q = t then W (8 * s + c) else W (8 * q + c) := by
  unfold es_sw
  rw [show (8 * q + c) / 8 = q by omega, show (8 * q + c) % 8 = c by omega]
theorem es_clv (W : Nat → Int) {m k j q c : Nat} {d : Int} (hc : c < 8) : es_cl W m k j d (8 * q + c) = if q < m ∧ q ≠ k then (W (8 * q + c) * W (8 * k + j) - W (8 * k + c) * W (8 * q + j)).tdiv d else W (8 * q + c) := by
  unfold es_cl
  rw [show (8 * q + c) / 8 = q by omega, show (8 * q + c) % 8 = c by omega]
/-- what holds behind the exchange -/
theorem es_I1 {m j : Nat} {e : es_T} (hm : m ≤ 4) (h : es_I m j e) (ht : es_t m j e < m) : ∃ R : Nat → Nat → Int, (∀ q c, (R q c).natAbs ≤ 3) ∧ (∀ q, q < m → ∀ c, c < 8 → es_sw e.1 e.2.1 (es_t m j e) (8 * q + c) = el_F R e.2.2.2.2.2 e.2.1 q c) ∧ e.2.2.2.2.1 = el_D R e.2.2.2.2.2 e.2.1 := by
  obtain ⟨R, hR, hW, hd, hd0, hk, hp⟩ := h
  obtain ⟨h1, h2, h3, h4⟩ := es_tm (j := j) hk
  refine ⟨el_S R e.2.1 (es_t m j e), ?_, ?_, ?_⟩
  · intro q c
    unfold el_S
    split
    · exact hR _ _
    · split
      · exact hR _ _
      · exact hR _ _
  · intro q hq c hc
    rw [es_swv _ hc, el_sw R _ c _ (by omega) _ (by omega) h1 _ (by omega)]
    split
    · exact hW _ ht c hc
    · split
      · exact hW _ (by omega) c hc
      · exact hW _ hq c hc
  · rw [el_swD R _ _ (by omega) _ (by omega) h1]; exact hd
theorem es_Is {m S j : Nat} {e : es_T} (hm : m ≤ 4) (hj : j < 8) (h : es_I m j e) : es_I m (j + 1) (es_st m S j e) := by
  by_cases hb : S.testBit j = true
  · by_cases ht : es_t m j e < m
    · obtain ⟨R, hR, hW, hd⟩ := es_I1 hm h ht
      obtain ⟨_, _, _, _, hd0, hk, hp⟩ := h
      obtain ⟨h1, h2, h3, h4⟩ := es_tm (j := j) hk
      rw [es_b hb ht]
      refine ⟨R, hR, ?_, ?_, ?_, ?_, ?_⟩
      · intro q hq c hc
        show es_cl _ m e.2.1 j e.2.2.2.2.1 (8 * q + c) = el_F R (fun i => if i = e.2.1 then j else e.2.2.2.2.2 i) (e.2.1 + 1) q c
        rw [es_clv _ hc]
        by_cases hqk : q = e.2.1
        · rw [if_neg (fun z => z.2 hqk), hW q hq c hc, hqk]
          exact el_row R _ j c _ (by omega)
        · rw [if_pos ⟨hq, hqk⟩, hW q hq c hc, hW q hq j hj, hW _ (by omega) c hc, hW _ (by omega) j hj, el_step R _ j c _ (by omega) q (by omega) hqk, ← hd]
          exact Int.mul_tdiv_cancel_left _ hd0
      · show es_sw e.1 e.2.1 (es_t m j e) (8 * e.2.1 + j) = _
        rw [hW _ (by omega) j hj]
        exact (el_piv R _ j _ (by omega)).symm
      · show es_sw e.1 e.2.1 (es_t m j e) (8 * e.2.1 + j) ≠ 0
        rw [es_swv _ hj, if_pos rfl]
        exact h4 ht
      · show e.2.1 + 1 ≤ m
        omega
      · intro i hi
        show (if i = e.2.1 then j else e.2.2.2.2.2 i) < j + 1
        split
        · omega
        · have := hp i (by have : i < e.2.1 + 1 := hi; omega)
          omega
    · rw [es_c hb ht]
      obtain ⟨R, hR, hW, hd, hd0, hk, hp⟩ := h
      exact ⟨R, hR, hW, hd, hd0, hk, fun i hi => Nat.lt_succ_of_lt (hp i hi)⟩
  · rw [es_a hb]
    obtain ⟨R, hR, hW, hd, hd0, hk, hp⟩ := h
    exact ⟨R, hR, hW, hd, hd0, hk, fun i hi => Nat.lt_succ_of_lt (hp i hi)⟩
theorem es_Ir {m S : Nat} {T : Nat → Int} (hm : m ≤ 4) (hT : ∀ i, (T i).natAbs ≤ 3) : ∀ j, j ≤ 8 → es_I m j (es_run m S T j) := by
  intro j
  induction j with
  | zero => exact fun _ => ⟨fun q c => T (8 * q + c), fun q c => hT _, fun q hq c hc => rfl, rfl, by show (1 : Int) ≠ 0; decide, Nat.zero_le _, fun i hi => absurd hi (Nat.not_lt_zero _)⟩
  | succ j ih => exact fun h => es_Is hm (by omega) (ih (by omega))
theorem es_bW {m j : Nat} {e : es_T} (hm : m ≤ 4) (h : es_I m j e) {q c : Nat} (hq : q < m) (hc : c < 8) : (e.1 (8 * q + c)).natAbs ≤ 1944 := by
  obtain ⟨R, hR, hW, hd, hd0, hk, hp⟩ := h
  rw [hW q hq c hc]
  exact el_bd R _ c hR _ (by omega) q (by omega)
theorem es_bd {m j : Nat} {e : es_T} (hm : m ≤ 4) (h : es_I m j e) : (e.2.2.2.2.1).natAbs ≤ 1944 ∧ e.2.2.2.2.1 ≠ 0 ∧ e.2.1 ≤ m := by
  obtain ⟨R, hR, hW, hd, hd0, hk, hp⟩ := h
  refine ⟨?_, hd0, hk⟩
  rw [hd]
  exact el_bD R _ hR _ (by omega)
theorem es_bW1 {m j : Nat} {e : es_T} (hm : m ≤ 4) (h : es_I m j e) (ht : es_t m j e < m) {q c : Nat} (hq : q < m) (hc : c < 8) : (es_sw e.1 e.2.1 (es_t m j e) (8 * q + c)).natAbs ≤ 1944 := by
  have hk := (es_bd hm h).2.2
  obtain ⟨R, hR, hW, hd⟩ := es_I1 hm h ht
  rw [hW q hq c hc]
  exact el_bd R _ c hR _ (by omega) q (by omega)
/-- every pivot of the cleared table is the last divisor -/
theorem es_dg {m j : Nat} {e : es_T} (hm : m ≤ 4) (hj : j ≤ 8) (h : es_I m j e) {i : Nat} (hi : i < e.2.1) : e.1 (8 * i + e.2.2.2.2.2 i) = e.2.2.2.2.1 := by
  obtain ⟨R, hR, hW, hd, hd0, hk, hp⟩ := h
  have := hp i hi
  rw [hW i (by omega) _ (by omega), hd]
  exact el_dia R _ _ (by omega) i hi
end
section
/-! the history of an elimination: ranks, pivots, the free column -/
def es_P (m S : Nat) (T : Nat → Int) (j : Nat) : Prop := S.testBit j = true ∧ es_t m j (es_run m S T j) < m
theorem es_kP {m S : Nat} {T : Nat → Int} {j : Nat} (h : es_P m S T j) : (es_run m S T (j + 1)).2.1 = (es_run m S T j).2.1 + 1 := by
  show (es_st m S j (es_run m S T j)).2.1 = _
  rw [es_b h.1 h.2]
theorem es_kN {m S : Nat} {T : Nat → Int} {j : Nat} (h : ¬ es_P m S T j) : (es_run m S T (j + 1)).2.1 = (es_run m S T j).2.1 := by
  show (es_st m S j (es_run m S T j)).2.1 = _
  by_cases hb : S.testBit j = true
  · rw [es_c hb (fun z => h ⟨hb, z⟩)]
  · rw [es_a hb]
theorem es_oP {m S : Nat} {T : Nat → Int} {j : Nat} (h : S.testBit j = true → es_P m S T j) : (es_run m S T (j + 1)).2.2.1 = (es_run m S T j).2.2.1 ∧ (es_run m S T (j + 1)).2.2.2.1 = (es_run m S T j).2.2.2.1 := by
  show (es_st m S j (es_run m S T j)).2.2.1 = _ ∧ (es_st m S j (es_run m S T j)).2.2.2.1 = _
  by_cases hb : S.testBit j = true
  · rw [es_b hb (h hb).2]; exact ⟨rfl, rfl⟩
  · rw [es_a hb]; exact ⟨rfl, rfl⟩
theorem es_oN {m S : Nat} {T : Nat → Int} {j : Nat} (hb : S.testBit j = true) (h : ¬ es_P m S T j) : (es_run m S T (j + 1)).2.2.1 = (es_run m S T j).2.2.1 + 1 ∧ (es_run m S T (j + 1)).2.2.2.1 = j := by
  show (es_st m S j (es_run m S T j)).2.2.1 = _ ∧ (es_st m S j (es_run m S T j)).2.2.2.1 = _
  rw [es_c hb (fun z => h ⟨hb, z⟩)]; exact ⟨rfl, rfl⟩
theorem es_km {m S : Nat} {T : Nat → Int} {j : Nat} : ∀ n, j ≤ n → (es_run m S T j).2.1 ≤ (es_run m S T n).2.1 ∧ (es_run m S T j).2.2.1 ≤ (es_run m S T n).2.2.1 := by
  intro n
  induction n with
  | zero => intro h; rw [show j = 0 by omega]; exact ⟨Nat.le_refl _, Nat.le_refl _⟩
  | succ n ih =>
    intro h
    by_cases hj : j = n + 1
    · rw [hj]; exact ⟨Nat.le_refl _, Nat.le_refl _⟩
    · obtain ⟨h1, h2⟩ := ih (by omega)
      constructor
      · by_cases hp : es_P m S T n
        · rw [es_kP hp]; omega
        · rw [es_kN hp]; omega
      · by_cases hb : S.testBit n = true
        · by_cases hp : es_P m S T n
          · rw [(es_oP (fun _ => hp)).1]; omega
          · rw [(es_oN hb hp).1]; omega
        · rw [(es_oP (fun z => absurd z hb)).1]; omega
theorem es_pf {m S : Nat} {T : Nat → Int} {j : Nat} (hP : es_P m S T j) : ∀ n, j < n → (es_run m S T n).2.2.2.2.2 (es_run m S T j).2.1 = j := by
  intro n
  induction n with
  | zero => intro h; omega
  | succ n ih =>
    intro h
    show (es_st m S n (es_run m S T n)).2.2.2.2.2 _ = _
    by_cases hj : j = n
    · subst hj
      rw [es_b hP.1 hP.2]
      exact if_pos rfl
    · have hk : (es_run m S T j).2.1 < (es_run m S T n).2.1 := by
        have h1 := (es_km (m := m) (S := S) (T := T) (j := j + 1) n (by omega)).1
        rw [es_kP hP] at h1; omega
      by_cases hb : S.testBit n = true
      · by_cases ht : es_t m n (es_run m S T n) < m
        · rw [es_b hb ht]
          show (if _ = _ then _ else _) = _
          rw [if_neg (by omega)]; exact ih (by omega)
        · rw [es_c hb ht]; exact ih (by omega)
      · rw [es_a hb]; exact ih (by omega)
theorem es_ex {m S : Nat} {T : Nat → Int} {i : Nat} : ∀ n, i < (es_run m S T n).2.1 → ∃ j, j < n ∧ es_P m S T j ∧ (es_run m S T j).2.1 = i := by
  intro n
  induction n with
  | zero => intro h; exact absurd h (Nat.not_lt_zero _)
  | succ n ih =>
    intro h
    by_cases hp : es_P m S T n
    · rw [es_kP hp] at h
      by_cases hi : i = (es_run m S T n).2.1
      · exact ⟨n, by omega, hp, hi.symm⟩
      · obtain ⟨j, h1, h2, h3⟩ := ih (by omega)
        exact ⟨j, by omega, h2, h3⟩
    · rw [es_kN hp] at h
      obtain ⟨j, h1, h2, h3⟩ := ih h
      exact ⟨j, by omega, h2, h3⟩
theorem es_of {m S : Nat} {T : Nat → Int} : ∀ n, 1 ≤ (es_run m S T n).2.2.1 → (es_run m S T n).2.2.2.1 < n ∧ S.testBit (es_run m S T n).2.2.2.1 = true ∧ ¬ es_P m S T (es_run m S T n).2.2.2.1 := by
  intro n
  induction n with
  | zero => intro h; exact absurd h (Nat.not_lt_zero _)
  | succ n ih =>
    intro h
    by_cases hq : S.testBit n = true → es_P m S T n
    · obtain ⟨h1, h2⟩ := es_oP hq
      rw [h1] at h
      rw [h2]
      obtain ⟨a, b, c⟩ := ih h
      exact ⟨by omega, b, c⟩
    · have hb : S.testBit n = true := Classical.byContradiction (fun z => hq (fun y => absurd y z))
      have hp : ¬ es_P m S T n := fun z => hq (fun _ => z)
      rw [(es_oN hb hp).2]
      exact ⟨by omega, hb, hp⟩
theorem es_on {m S : Nat} {T : Nat → Int} {j : Nat} (hb : S.testBit j = true) (hp : ¬ es_P m S T j) : ∀ n, j < n → 1 ≤ (es_run m S T n).2.2.1 ∧ ((es_run m S T n).2.2.1 = 1 → (es_run m S T n).2.2.2.1 = j) := by
  intro n
  induction n with
  | zero => intro h; omega
  | succ n ih =>
    intro h
    by_cases hj : j = n
    · subst hj
      obtain ⟨h1, h2⟩ := es_oN hb hp
      exact ⟨by omega, fun _ => h2⟩
    · obtain ⟨i1, i2⟩ := ih (by omega)
      by_cases hq : S.testBit n = true → es_P m S T n
      · obtain ⟨h1, h2⟩ := es_oP hq
        exact ⟨by omega, fun z => by rw [h2]; exact i2 (by omega)⟩
      · have hb' : S.testBit n = true := Classical.byContradiction (fun z => hq (fun y => absurd y z))
        obtain ⟨h1, h2⟩ := es_oN hb' (fun z => hq (fun _ => z))
        exact ⟨by omega, fun z => by omega⟩
def es_n (S : Nat) : Nat → Nat
  | 0 => 0
  | j + 1 => es_n S j + (if S.testBit j = true then 1 else 0)
theorem es_cnt {m S : Nat} {T : Nat → Int} : ∀ n, (es_run m S T n).2.1 + (es_run m S T n).2.2.1 = es_n S n := by
  intro n
  induction n with
  | zero => rfl
  | succ n ih =>
    show _ = es_n S n + _
    by_cases hb : S.testBit n = true
    · rw [if_pos hb]
      by_cases hp : es_P m S T n
      · rw [es_kP hp, (es_oP (fun _ => hp)).1]; omega
      · rw [es_kN hp, (es_oN hb hp).1]; omega
    · rw [if_neg hb, es_kN (fun z => hb z.1), (es_oP (fun z => absurd z hb)).1]; omega
/-- the candidate that the finished elimination leaves -/
noncomputable def es_v (m S : Nat) (T : Nat → Int) (j : Nat) : Int :=
  @ite _ (es_P m S T j) (Classical.propDecidable _) (-(es_run m S T 8).1 (8 * (es_run m S T j).2.1 + (es_run m S T 8).2.2.2.1))
    (if j = (es_run m S T 8).2.2.2.1 then (es_run m S T 8).2.2.2.2.1 else 0)
theorem es_vP {m S : Nat} {T : Nat → Int} {j : Nat} (h : es_P m S T j) : es_v m S T j = -(es_run m S T 8).1 (8 * (es_run m S T j).2.1 + (es_run m S T 8).2.2.2.1) := if_pos h
theorem es_vN {m S : Nat} {T : Nat → Int} {j : Nat} (h : ¬ es_P m S T j) : es_v m S T j = if j = (es_run m S T 8).2.2.2.1 then (es_run m S T 8).2.2.2.2.1 else 0 := if_neg h
theorem es_kl {m S : Nat} {T : Nat → Int} {j : Nat} (h : es_P m S T j) {n : Nat} (hj : j < n) : (es_run m S T j).2.1 < (es_run m S T n).2.1 := by
  have h1 := (es_km (m := m) (S := S) (T := T) (j := j + 1) n (by omega)).1
  rw [es_kP h] at h1; omega
theorem es_vb {m S : Nat} {T : Nat → Int} (hm : m ≤ 4) (hT : ∀ i, (T i).natAbs ≤ 3) (ho : 1 ≤ (es_run m S T 8).2.2.1) {j : Nat} (hj : j < 8) : (es_v m S T j).natAbs ≤ 1944 := by
  have hI := es_Ir (S := S) hm hT 8 (Nat.le_refl _)
  by_cases h : es_P m S T j
  · rw [es_vP h, Int.natAbs_neg]
    have h1 := es_kl h hj
    have h2 := (es_bd hm hI).2.2
    exact es_bW hm hI (by omega) (es_of 8 ho).1
  · rw [es_vN h]
    split
    · exact (es_bd hm hI).1
    · decide
end
section
/-! the component's elimination -/
def xa_E (a : Nat → Int32) (E : Nat → Int) : Prop := ∀ q, q < 4 → ∀ c, c < 8 → a (8 * q + c) = zz_i (E (8 * q + c))
theorem xl_copy (post : SX → Prop) (fm fr ft fo fc : Int32) (tA sA xA pA cA : Nat → Int32) (E : Nat → Int) (hT : ∀ i, i < 32 → tA i = zz_i (E i)) (hp : ∀ w, (∀ i, i < 32 → w i = zz_i (E i)) → post (fm, fr, ft, fo, fc, tA, sA, xA, w, pA, cA)) :
    ∀ (d i n : Nat) (w : Nat → Int32), i + d = 32 → d < n → (∀ q, q < i → w q = zz_i (E q)) → wX_copyTable_2 post fm fr ft fo fc n (nI i) tA sA xA w pA cA := by
  intro d
  induction d with
  | zero =>
    intro i n w hi hn hw
    obtain ⟨n, rfl⟩ : ∃ k, n = k + 1 := ⟨n - 1, by omega⟩
    rw [wX_copyTable_2]
    refine pk_le 32 i (fun _ => hp w (fun q hq => hw q (by omega))) (fun h => by omega)
  | succ d ih =>
    intro i n w hi hn hw
    obtain ⟨n, rfl⟩ : ∃ k, n = k + 1 := ⟨n - 1, by omega⟩
    rw [wX_copyTable_2]
    refine pk_le 32 i (fun h => by omega) (fun h => ⟨vp_in_nI h (by decide), vp_in_nI h (by decide), nm_r (e' := upd w i (tA i)) (by rw [nI_clamp (by omega)]) (nm_r (nI_1 i) (ih (i + 1) n _ (by omega) (by omega) ?_))⟩)
    intro q hq
    by_cases hqi : q = i
    · rw [hqi, pk_us]; exact hT i h
    · rw [pk_un hqi]; exact hw q (by omega)
theorem xl_pivot (post : Int32 → Prop) (fr ft fo fc : Int32) (tA sA xA w pA cA : Nat → Int32) (E : Nat → Int) (m j : Nat) (hm : m ≤ 4) (hj : j < 8) (hw : xa_E w E) (hb : ∀ q, q < m → (E (8 * q + j)).natAbs ≤ 1944) :
    ∀ (d s n : Nat), s + d = m → d < n → (es_pv E j d s < m → post (nI (es_pv E j d s))) → (¬ es_pv E j d s < m → post (-1)) → wX_pivotRow_2 post (nI j) (nI m) fr ft fo fc tA sA xA w pA cA n (nI s) := by
  intro d
  induction d with
  | zero =>
    intro s n hs hn h1 h2
    obtain ⟨n, rfl⟩ : ∃ k, n = k + 1 := ⟨n - 1, by omega⟩
    rw [wX_pivotRow_2]
    exact pk_le m s (fun _ => h2 (by unfold es_pv; omega)) (fun h => by omega)
  | succ d ih =>
    intro s n hs hn h1 h2
    obtain ⟨n, rfl⟩ : ∃ k, n = k + 1 := ⟨n - 1, by omega⟩
    rw [wX_pivotRow_2]
    refine pk_le m s (fun h => by omega) (fun h => ?_)
    rw [zz_x, nI_clamp (by omega), hw s (by omega) j hj]
    refine ⟨vp_in_nI (by omega) (by decide), ?_⟩
    by_cases hz : E (8 * s + j) = 0
    · have e : es_pv E j (d + 1) s = es_pv E j d (s + 1) := if_pos hz
      rw [e] at h1 h2
      exact br_t ((zz_ie0 (by have := hb s h; omega)).mpr hz) (nm_r (nI_1 s) (ih (s + 1) n (by omega) (by omega) h1 h2))
    · have e : es_pv E j (d + 1) s = s := if_neg hz
      rw [e] at h1
      exact br_f (fun z => hz ((zz_ie0 (by have := hb s h; omega)).mp z)) (h1 h)
theorem xl_swap (post : SX → Prop) (fm fr ft fo fc : Int32) (tA sA xA pA cA : Nat → Int32) (E : Nat → Int) (s t : Nat) (hs : s < 4) (ht : t < 4) (hp : ∀ w, xa_E w (es_sw E s t) → post (fm, fr, ft, fo, fc, tA, sA, xA, w, pA, cA)) :
    ∀ (d i n : Nat) (w : Nat → Int32), i + d = 8 → d < n → (∀ q, q < 4 → ∀ c, c < 8 → w (8 * q + c) = if c < i then zz_i (es_sw E s t (8 * q + c)) else zz_i (E (8 * q + c))) → wX_swapRows_2 post (nI s) (nI t) fm fr ft fo fc n (nI i) tA sA xA w pA cA := by
  intro d
  induction d with
  | zero =>
    intro i n w hi hn hw
    obtain ⟨n, rfl⟩ : ∃ k, n = k + 1 := ⟨n - 1, by omega⟩
    rw [wX_swapRows_2]
    refine pk_le 8 i (fun _ => hp w (fun q hq c hc => ?_)) (fun h => by omega)
    rw [hw q hq c hc, if_pos (by omega)]
  | succ d ih =>
    intro i n w hi hn hw
    obtain ⟨n, rfl⟩ : ∃ k, n = k + 1 := ⟨n - 1, by omega⟩
    rw [wX_swapRows_2]
    refine pk_le 8 i (fun h => by omega) (fun h => ?_)
    have c1 : (nI s * 8 + nI i).toNatClampNeg = 8 * s + i := by rw [zz_x, nI_clamp (by omega)]
    have c2 : (nI t * 8 + nI i).toNatClampNeg = 8 * t + i := by rw [zz_x, nI_clamp (by omega)]
    have v1 : vp_in (nI s * 8 + nI i) 32 := by rw [zz_x]; exact vp_in_nI (by omega) (by decide)
    have v2 : vp_in (nI t * 8 + nI i) 32 := by rw [zz_x]; exact vp_in_nI (by omega) (by decide)
    refine ⟨v1, nm_r (congrArg w c1) ⟨v2, v1, nm_r (e' := upd w (8 * s + i) (w (8 * t + i))) (by rw [c1, c2]) ⟨v2, nm_r (e' := upd (upd w (8 * s + i) (w (8 * t + i))) (8 * t + i) (w (8 * s + i))) (by rw [c2]) (nm_r (nI_1 i) (ih (i + 1) n _ (by omega) (by omega) ?_))⟩⟩⟩
    intro q hq c hc
    by_cases hci : c = i
    · subst hci
      rw [if_pos (by omega), es_swv _ hc]
      by_cases hqt : q = t
      · subst hqt
        rw [pk_us, hw s hs c hc, if_neg (by omega)]
        by_cases hqs : q = s
        · rw [if_pos hqs, hqs]
        · rw [if_neg hqs, if_pos rfl]
      · rw [pk_un (by omega)]
        by_cases hqs : q = s
        · subst hqs
          rw [pk_us, if_pos rfl, hw t ht c hc, if_neg (by omega)]
        · rw [pk_un (by omega), if_neg hqs, if_neg hqt, hw q hq c hc, if_neg (by omega)]
    · rw [pk_un (by omega), pk_un (by omega), hw q hq c hc]
      by_cases hlt : c < i
      · rw [if_pos hlt, if_pos (by omega)]
      · rw [if_neg hlt, if_neg (by omega)]
theorem xl_cl51 (post : SX → Prop) (J : Int32 → (Nat → Int32) → (Nat → Int32) → (Nat → Int32) → (Nat → Int32) → (Nat → Int32) → (Nat → Int32) → Prop) (fr ft fo fc : Int32) (tA sA xA pA cA : Nat → Int32) (E : Nat → Int) (m k j r : Nat) (x2 : Int32) (d : Int) (hm : m ≤ 4) (hk : k < m) (hj : j < 8) (hr : r < m) (hrk : r ≠ k) (hd : d ≠ 0) (hdb : d.natAbs ≤ 1944) (hb : ∀ q, q < m → ∀ c, c < 8 → (E (8 * q + c)).natAbs ≤ 1944)
    (hJ : ∀ w, (∀ q, q < 4 → ∀ c, c < 8 → w (8 * q + c) = if q < r + 1 then zz_i (es_cl E m k j d (8 * q + c)) else zz_i (E (8 * q + c))) → J (nI (r + 1)) tA sA xA w pA cA) :
    ∀ (e i n : Nat) (w : Nat → Int32), i + e = 8 → e < n → (∀ q, q < 4 → ∀ c, c < 8 → w (8 * q + c) = if q < r ∨ (q = r ∧ c < i) then zz_i (es_cl E m k j d (8 * q + c)) else zz_i (E (8 * q + c))) → wX_clearColumn_51 post J (nI k) x2 (zz_i d) (zz_i (E (8 * k + j))) (nI r) (zz_i (E (8 * r + j))) (nI m) fr ft fo fc n (nI i) tA sA xA w pA cA := by
  intro e
  induction e with
  | zero =>
    intro i n w hi hn hw
    obtain ⟨n, rfl⟩ : ∃ k, n = k + 1 := ⟨n - 1, by omega⟩
    rw [wX_clearColumn_51]
    refine pk_le 8 i (fun _ => nm_r (nI_1 r) (hJ w (fun q hq c hc => ?_))) (fun h => by omega)
    rw [hw q hq c hc]
    by_cases h : q < r + 1
    · rw [if_pos h, if_pos (by omega)]
    · rw [if_neg h, if_neg (by omega)]
  | succ e ih =>
    intro i n w hi hn hw
    obtain ⟨n, rfl⟩ : ∃ k, n = k + 1 := ⟨n - 1, by omega⟩
    rw [wX_clearColumn_51]
    refine pk_le 8 i (fun h => by omega) (fun h => ?_)
    have c1 : (nI r * 8 + nI i).toNatClampNeg = 8 * r + i := by rw [zz_x, nI_clamp (by omega)]
    have c2 : (nI k * 8 + nI i).toNatClampNeg = 8 * k + i := by rw [zz_x, nI_clamp (by omega)]
    have v1 : vp_in (nI r * 8 + nI i) 32 := by rw [zz_x]; exact vp_in_nI (by omega) (by decide)
    have v2 : vp_in (nI k * 8 + nI i) 32 := by rw [zz_x]; exact vp_in_nI (by omega) (by decide)
    have e1 : w (8 * r + i) = zz_i (E (8 * r + i)) := by rw [hw r (by omega) i h, if_neg (by omega)]
    have e2 : w (8 * k + i) = zz_i (E (8 * k + i)) := by
      rw [hw k (by omega) i h]
      by_cases hh : k < r ∨ (k = r ∧ i < i)
      · rw [if_pos hh, es_clv _ h, if_neg (by omega)]
      · rw [if_neg hh]
    have b1 := zz_mb (hb r hr i h) (hb k hk j hj)
    have b2 := zz_mb (hb k hk i h) (hb r hr j hj)
    have hd' : ¬ zz_i d = 0 := fun z => hd ((zz_ie0 (by omega)).mp z)
    refine ⟨v1, nm_r (e' := zz_i (E (8 * r + i) * E (8 * k + j))) (by rw [c1, e1, zz_imul]) ⟨v2, nm_r (e' := zz_i (E (8 * k + i) * E (8 * r + j))) (by rw [c2, e2, zz_imul]) ?_⟩⟩
    rw [zz_isub]
    refine br_f hd' ⟨hd', v1, ?_⟩
    refine nm_r (e' := upd w (8 * r + i) (zz_i (es_cl E m k j d (8 * r + i)))) ?_ (nm_r (nI_1 i) (ih (i + 1) n _ (by omega) (by omega) ?_))
    · rw [c1, zz_idiv (by omega) (by omega), es_clv _ h, if_pos ⟨hr, hrk⟩]
    · intro q hq c hc
      by_cases hx : q = r ∧ c = i
      · obtain ⟨rfl, rfl⟩ := hx
        rw [pk_us, if_pos (by omega)]
      · rw [pk_un (by omega), hw q hq c hc]
        by_cases hy : q < r ∨ (q = r ∧ c < i)
        · rw [if_pos hy, if_pos (by omega)]
        · rw [if_neg hy, if_neg (by omega)]
theorem xl_cl16 (post : SX → Prop) (fr ft fo fc : Int32) (tA sA xA pA cA : Nat → Int32) (E : Nat → Int) (m k j : Nat) (d : Int) (hm : m ≤ 4) (hk : k < m) (hj : j < 8) (hd : d ≠ 0) (hdb : d.natAbs ≤ 1944) (hb : ∀ q, q < m → ∀ c, c < 8 → (E (8 * q + c)).natAbs ≤ 1944)
    (hp : ∀ w, xa_E w (es_cl E m k j d) → post (nI m, fr, ft, fo, fc, tA, sA, xA, w, pA, cA)) :
    ∀ (e r n : Nat) (w : Nat → Int32), r + e = m → e < n → (∀ q, q < 4 → ∀ c, c < 8 → w (8 * q + c) = if q < r then zz_i (es_cl E m k j d (8 * q + c)) else zz_i (E (8 * q + c))) → wX_clearColumn_16 post (nI k) (nI j) (zz_i d) (zz_i (E (8 * k + j))) (nI m) fr ft fo fc n (nI r) tA sA xA w pA cA := by
  intro e
  induction e with
  | zero =>
    intro r n w hi hn hw
    obtain ⟨n, rfl⟩ : ∃ k, n = k + 1 := ⟨n - 1, by omega⟩
    rw [wX_clearColumn_16]
    refine pk_le m r (fun _ => hp w (fun q hq c hc => ?_)) (fun h => by omega)
    rw [hw q hq c hc]
    by_cases h : q < r
    · rw [if_pos h]
    · rw [if_neg h, es_clv _ hc, if_neg (by omega)]
  | succ e ih =>
    intro r n w hi hn hw
    obtain ⟨n, rfl⟩ : ∃ k, n = k + 1 := ⟨n - 1, by omega⟩
    rw [wX_clearColumn_16]
    refine pk_le m r (fun h => by omega) (fun h => ?_)
    refine pk_eq r k (fun hrk => nm_r (nI_1 r) (ih (r + 1) n w (by omega) (by omega) ?_)) (fun hrk => ?_)
    · intro q hq c hc
      rw [hw q hq c hc]
      by_cases h1 : q < r
      · rw [if_pos h1, if_pos (by omega)]
      · by_cases h2 : q = r
        · rw [if_neg h1, if_pos (by omega), es_clv _ hc, if_neg (by omega)]
        · rw [if_neg h1, if_neg (by omega)]
    · have c1 : (nI r * 8 + nI j).toNatClampNeg = 8 * r + j := by rw [zz_x, nI_clamp (by omega)]
      have v1 : vp_in (nI r * 8 + nI j) 32 := by rw [zz_x]; exact vp_in_nI (by omega) (by decide)
      refine ⟨v1, nm_r (e' := zz_i (E (8 * r + j))) (by rw [c1, hw r (by omega) j hj, if_neg (by omega)]) ⟨9, ?_⟩⟩
      refine xl_cl51 post _ fr ft fo fc tA sA xA pA cA E m k j r (nI j) d hm hk hj h hrk hd hdb hb (fun w' hw' => ih (r + 1) n w' (by omega) (by omega) hw') 8 0 9 w (by omega) (by omega) ?_
      intro q hq c hc
      rw [hw q hq c hc]
      by_cases h1 : q < r
      · rw [if_pos h1, if_pos (by omega)]
      · rw [if_neg h1, if_neg (by omega)]
end
section
/-! the component's findLine -/
theorem zz_bit {S j : Nat} (hS : S < 2 ^ 31) (hj : j < 32) : (nI S >>> (nI j &&& 31)) &&& 1 = nI (S / 2 ^ j % 2) := by
  rw [pk_shrN hS _ j (s_l j hj), pk_andN (Nat.lt_of_le_of_lt (Nat.div_le_self _ _) (Nat.lt_trans hS (by decide))) 1 (by decide)]
theorem zz_bt {S j : Nat} : S.testBit j = true ↔ S / 2 ^ j % 2 = 1 := by
  rw [Nat.testBit_eq_decide_div_mod_eq]; exact decide_eq_true_iff
theorem zz_b1 {S j : Nat} (hS : S < 2 ^ 31) (hj : j < 32) (hb : S.testBit j = true) : (nI S >>> (nI j &&& 31)) &&& 1 = 1 := by
  rw [zz_bit hS hj, zz_bt.mp hb]; rfl
theorem zz_b0 {S j : Nat} (hS : S < 2 ^ 31) (hj : j < 32) (hb : ¬ S.testBit j = true) : (nI S >>> (nI j &&& 31)) &&& 1 = 0 := by
  rw [zz_bit hS hj, (Nat.mod_two_eq_zero_or_one (S / 2 ^ j)).resolve_right (fun z => hb (zz_bt.mpr z))]; rfl
theorem xw_b1 {post : Int32 → Prop} {S j : Nat} (hS : S < 2 ^ 31) (hj : j < 32) (hb : S.testBit j = true) (h : post 1) : wpX_bitOf post (nI S) (nI j) := by
  unfold wpX_bitOf; rw [zz_b1 hS hj hb]; exact h
theorem xw_b0 {post : Int32 → Prop} {S j : Nat} (hS : S < 2 ^ 31) (hj : j < 32) (hb : ¬ S.testBit j = true) (h : post 0) : wpX_bitOf post (nI S) (nI j) := by
  unfold wpX_bitOf; rw [zz_b0 hS hj hb]; exact h
def es_ok (m S : Nat) (T : Nat → Int) : Prop := (es_run m S T 8).2.2.1 = 1 ∧ ∀ j, j < 8 → S.testBit j = true → es_v m S T j ≠ 0
theorem es_okP {m S : Nat} {T : Nat → Int} (hm : m ≤ 4) (hT : ∀ i, (T i).natAbs ≤ 3) (ho : (es_run m S T 8).2.2.1 = 1) (h : ∀ j, j < 8 → es_P m S T j → es_v m S T j ≠ 0) : es_ok m S T := by
  refine ⟨ho, fun j hj hb => ?_⟩
  by_cases hp : es_P m S T j
  · exact h j hj hp
  · rw [es_vN hp, if_pos ((es_on hb hp 8 hj).2 ho).symm]
    exact (es_bd hm (es_Ir (S := S) hm hT 8 (Nat.le_refl _))).2.1
theorem es_hi {m S r : Nat} {T : Nat → Int} (h : ∀ j, r ≤ j → ¬ S.testBit j = true) : ∀ i, es_run m S T (r + i) = es_run m S T r := by
  intro i
  induction i with
  | zero => rfl
  | succ i ih =>
    show es_st m S (r + i) (es_run m S T (r + i)) = _
    rw [es_a (h _ (by omega)), ih]
theorem es_hi8 {m S r : Nat} {T : Nat → Int} (hr : r ≤ 8) (h : ∀ j, r ≤ j → ¬ S.testBit j = true) : es_run m S T r = es_run m S T 8 := by
  have := es_hi (m := m) (T := T) h (8 - r)
  rw [← this, show r + (8 - r) = 8 by omega]
theorem xl_rd34 (post : Int32 → SX → Prop) (fr ft fo fc : Int32) (tA sA xA w pA : Nat → Int32) (m S : Nat) (T : Nat → Int) (hm : m ≤ 4) (hT : ∀ i, (T i).natAbs ≤ 3) (ho : 1 ≤ (es_run m S T 8).2.2.1)
    (hw : xa_E w (es_run m S T 8).1) (hpA : ∀ i, i < (es_run m S T 8).2.1 → pA i = nI ((es_run m S T 8).2.2.2.2.2 i))
    (h1 : (∀ j, j < 8 → es_P m S T j → es_v m S T j ≠ 0) → ∀ c : Nat → Int32, (∀ j, j < 8 → c j = zz_i (es_v m S T j)) → post 1 (nI m, fr, ft, fo, fc, tA, sA, xA, w, pA, c))
    (h0 : (¬ ∀ j, j < 8 → es_P m S T j → es_v m S T j ≠ 0) → ∀ c : Nat → Int32, post 0 (nI m, fr, ft, fo, fc, tA, sA, xA, w, pA, c)) :
    ∀ (e i n : Nat) (c : Nat → Int32), i + e = (es_run m S T 8).2.1 → e < n → (∀ j, j < 8 → (es_P m S T j → (es_run m S T j).2.1 < i) → c j = zz_i (es_v m S T j)) → (∀ j, j < 8 → es_P m S T j → (es_run m S T j).2.1 < i → es_v m S T j ≠ 0) →
      wX_readLine_34 post (nI (es_run m S T 8).2.1) (nI (es_run m S T 8).2.2.2.1) (nI m) fr ft fo fc n (nI i) tA sA xA w pA c := by
  have hI := es_Ir (S := S) hm hT 8 (Nat.le_refl _)
  have hk := (es_bd hm hI).2.2
  have hf := (es_of 8 ho).1
  intro e
  induction e with
  | zero =>
    intro i n c hi hn hc hz
    obtain ⟨n, rfl⟩ : ∃ k, n = k + 1 := ⟨n - 1, by omega⟩
    rw [wX_readLine_34]
    refine pk_le (es_run m S T 8).2.1 i (fun _ => h1 (fun j hj hp => hz j hj hp ?_) c (fun j hj => hc j hj (fun hp => ?_))) (fun h => by omega)
    · have := es_kl hp hj; omega
    · have := es_kl hp hj; omega
  | succ e ih =>
    intro i n c hi hn hc hz
    obtain ⟨n, rfl⟩ : ∃ k, n = k + 1 := ⟨n - 1, by omega⟩
    rw [wX_readLine_34]
    refine pk_le (es_run m S T 8).2.1 i (fun h => by omega) (fun h => ?_)
    obtain ⟨j, hj, hP, hkj⟩ := es_ex 8 h
    have hpf := es_pf hP 8 hj
    rw [hkj] at hpf
    have c1 : (nI i * 8 + nI (es_run m S T 8).2.2.2.1).toNatClampNeg = 8 * i + (es_run m S T 8).2.2.2.1 := by rw [zz_x, nI_clamp (by omega)]
    have v1 : vp_in (nI i * 8 + nI (es_run m S T 8).2.2.2.1) 32 := by rw [zz_x]; exact vp_in_nI (by omega) (by decide)
    have ev : es_v m S T j = -(es_run m S T 8).1 (8 * i + (es_run m S T 8).2.2.2.1) := by rw [es_vP hP, hkj]
    have bv := es_vb hm hT ho hj
    have cj : pA (nI i).toNatClampNeg = nI j := by rw [nI_clamp (by omega), hpA i h, hpf]
    refine ⟨v1, nm_r (e' := zz_i (es_v m S T j)) (by rw [c1, hw i (by omega) _ hf, zz_ineg, ev]) ?_⟩
    by_cases hv : es_v m S T j = 0
    · exact br_t ((zz_ie0 (by omega)).mpr hv) (h0 (fun z => z j hj hP hv) c)
    · refine br_f (fun z => hv ((zz_ie0 (by omega)).mp z)) ⟨vp_in_nI (by omega) (by decide), ?_⟩
      rw [cj]
      refine ⟨vp_in_nI hj (by decide), nm_r (e' := upd c j (zz_i (es_v m S T j))) (by rw [nI_clamp (by omega)]) (nm_r (nI_1 i) (ih (i + 1) n _ (by omega) (by omega) ?_ ?_))⟩
      · intro j' hj' hc'
        by_cases hjj : j' = j
        · rw [hjj, pk_us]
        · rw [pk_un hjj]
          refine hc j' hj' (fun hp' => ?_)
          have h2 := hc' hp'
          by_cases hki : (es_run m S T j').2.1 = i
          · have := es_pf hp' 8 hj'
            rw [hki, hpf] at this
            exact absurd this.symm hjj
          · omega
      · intro j' hj' hp' hk'
        by_cases hki : (es_run m S T j').2.1 = i
        · have := es_pf hp' 8 hj'
          rw [hki, hpf] at this
          rw [← this]; exact hv
        · exact hz j' hj' hp' (by omega)
theorem xl_rd (post : Int32 → SX → Prop) (fr ft fo fc : Int32) (tA sA xA w pA cA : Nat → Int32) (m S : Nat) (T : Nat → Int) (hm : m ≤ 4) (hT : ∀ i, (T i).natAbs ≤ 3) (ho : 1 ≤ (es_run m S T 8).2.2.1)
    (hw : xa_E w (es_run m S T 8).1) (hpA : ∀ i, i < (es_run m S T 8).2.1 → pA i = nI ((es_run m S T 8).2.2.2.2.2 i))
    (h1 : (∀ j, j < 8 → es_P m S T j → es_v m S T j ≠ 0) → ∀ c : Nat → Int32, (∀ j, j < 8 → c j = zz_i (es_v m S T j)) → post 1 (nI m, fr, ft, fo, fc, tA, sA, xA, w, pA, c))
    (h0 : (¬ ∀ j, j < 8 → es_P m S T j → es_v m S T j ≠ 0) → ∀ c : Nat → Int32, post 0 (nI m, fr, ft, fo, fc, tA, sA, xA, w, pA, c)) :
    wpX_readLine post (nI m, fr, ft, fo, fc, tA, sA, xA, w, pA, cA) (nI (es_run m S T 8).2.1) (nI (es_run m S T 8).2.2.2.1) (zz_i (es_run m S T 8).2.2.2.2.1) := by
  have hf := es_of 8 ho
  refine ⟨9, ?_⟩
  have H : ∀ (e i n : Nat) (c : Nat → Int32), i + e = 8 → e < n → (∀ j, j < i → c j = 0) → wX_readLine_3 post (nI (es_run m S T 8).2.1) (nI (es_run m S T 8).2.2.2.1) (zz_i (es_run m S T 8).2.2.2.2.1) (nI m) fr ft fo fc n (nI i) tA sA xA w pA c := by
    intro e
    induction e with
    | zero =>
      intro i n c hi hn hc
      obtain ⟨n, rfl⟩ : ∃ k, n = k + 1 := ⟨n - 1, by omega⟩
      rw [wX_readLine_3]
      refine pk_le 8 i (fun _ => ⟨vp_in_nI hf.1 (by decide), nm_r (e' := upd c (es_run m S T 8).2.2.2.1 (zz_i (es_run m S T 8).2.2.2.2.1)) (by rw [nI_clamp (by omega)]) ⟨(es_run m S T 8).2.1 + 1, ?_⟩⟩) (fun h => by omega)
      refine xl_rd34 post fr ft fo fc tA sA xA w pA m S T hm hT ho hw hpA h1 h0 _ 0 _ _ (Nat.zero_add _) (Nat.lt_succ_self _) ?_ (fun j hj hp hk => absurd hk (Nat.not_lt_zero _))
      intro j hj hc'
      have hp : ¬ es_P m S T j := fun z => absurd (hc' z) (Nat.not_lt_zero _)
      rw [es_vN hp]
      by_cases hjf : j = (es_run m S T 8).2.2.2.1
      · rw [if_pos hjf, hjf, pk_us]
      · rw [if_neg hjf, pk_un hjf, hc j (by omega)]; rfl
    | succ e ih =>
      intro i n c hi hn hc
      obtain ⟨n, rfl⟩ : ∃ k, n = k + 1 := ⟨n - 1, by omega⟩
      rw [wX_readLine_3]
      refine pk_le 8 i (fun h => by omega) (fun h => ⟨vp_in_nI h (by decide), nm_r (e' := upd c i 0) (by rw [nI_clamp (by omega)]) (nm_r (nI_1 i) (ih (i + 1) n _ (by omega) (by omega) ?_))⟩)
      intro j hj
      by_cases hji : j = i
      · rw [hji, pk_us]
      · rw [pk_un hji]; exact hc j (by omega)
  exact H 8 0 9 cA rfl (by decide) (fun j hj => absurd hj (Nat.not_lt_zero _))
theorem xl_f14 (post : Int32 → SX → Prop) (ft fo fc : Int32) (tA sA xA : Nat → Int32) (m r S : Nat) (T : Nat → Int) (hm : m ≤ 4) (hr : r ≤ 8) (hS : S < 256) (hSr : ∀ j, r ≤ j → ¬ S.testBit j = true) (hT : ∀ i, (T i).natAbs ≤ 3)
    (h1 : es_ok m S T → ∀ w p c : Nat → Int32, (∀ j, j < 8 → c j = zz_i (es_v m S T j)) → post 1 (nI m, nI r, ft, fo, fc, tA, sA, xA, w, p, c))
    (h0 : ¬ es_ok m S T → ∀ w p c : Nat → Int32, post 0 (nI m, nI r, ft, fo, fc, tA, sA, xA, w, p, c)) :
    ∀ (e j n : Nat) (x3 : Int32) (w p c : Nat → Int32), j + e = r → e < n → xa_E w (es_run m S T j).1 → (∀ i, i < (es_run m S T j).2.1 → p i = nI ((es_run m S T j).2.2.2.2.2 i)) → (((es_run m S T j).2.2.1 = 0 ∧ x3 = -1) ∨ ((es_run m S T j).2.2.1 = 1 ∧ x3 = nI (es_run m S T j).2.2.2.1)) →
      wX_findLine_14 post (nI S) n (nI (es_run m S T j).2.1) x3 (zz_i (es_run m S T j).2.2.2.2.1) (nI j) (nI m) (nI r) ft fo fc tA sA xA w p c := by
  intro e
  induction e with
  | zero =>
    intro j n x3 w p c hj hn hw hp hx
    obtain ⟨n, rfl⟩ : ∃ k, n = k + 1 := ⟨n - 1, by omega⟩
    have hjr : j = r := by omega
    subst hjr
    have e8 := es_hi8 (m := m) (T := T) hr hSr
    rw [e8] at hw hp hx
    rw [wX_findLine_14]
    refine pk_le j j (fun _ => ?_) (fun h => by omega)
    rcases hx with ⟨ho, rfl⟩ | ⟨ho, rfl⟩
    · exact br_t (by decide) (h0 (fun z => by have := z.1; omega) w p c)
    · have hf := es_of (m := m) (S := S) (T := T) 8 (by omega)
      refine br_f (nI_pos (by omega)) ?_
      rw [e8]
      refine xl_rd _ (nI j) ft fo fc tA sA xA w p c m S T hm hT (by omega) hw hp (fun hz c' hc' => ?_) (fun hz c' => ?_)
      · exact br_f (by decide) (h1 (es_okP hm hT ho hz) w p c' hc')
      · exact br_t rfl (h0 (fun z => hz (fun j' hj' hp' => z.2 j' hj' hp'.1)) w p c')
  | succ e ih =>
    intro j n x3 w p c hj hn hw hp hx
    obtain ⟨n, rfl⟩ : ∃ k, n = k + 1 := ⟨n - 1, by omega⟩
    have hI := es_Ir (S := S) hm hT j (by omega)
    obtain ⟨hdb, hd0, hk⟩ := es_bd hm hI
    rw [wX_findLine_14]
    refine pk_le r j (fun h => by omega) (fun h => ?_)
    have hrun : es_run m S T (j + 1) = es_st m S j (es_run m S T j) := rfl
    by_cases hb : S.testBit j = true
    · refine xw_b1 (by omega) (by omega) hb (br_f (by decide) ⟨m + 1, ?_⟩)
      refine xl_pivot _ (nI r) ft fo fc tA sA xA w p c (es_run m S T j).1 m j hm (by omega) hw (fun q hq => es_bW hm hI hq (by omega)) (m - (es_run m S T j).2.1) _ (m + 1) (by omega) (by omega) (fun ht => ?_) (fun ht => ?_)
      · have ht' : es_t m j (es_run m S T j) < m := ht
        have hkt : (es_run m S T j).2.1 ≤ es_t m j (es_run m S T j) := (es_tm hk).1
        rw [es_b hb ht'] at hrun
        refine br_f (nI_pos (by omega)) ⟨9, ?_⟩
        refine xl_swap _ (nI m) (nI r) ft fo fc tA sA xA p c (es_run m S T j).1 (es_run m S T j).2.1 (es_t m j (es_run m S T j)) (by omega) (by omega) (fun w1 hw1 => ?_) 8 0 9 w rfl (by decide) (fun q hq c hc => by rw [if_neg (by omega)]; exact hw q hq c hc)
        have c1 : (nI (es_run m S T j).2.1 * 8 + nI j).toNatClampNeg = 8 * (es_run m S T j).2.1 + j := by rw [zz_x, nI_clamp (by omega)]
        have v1 : vp_in (nI (es_run m S T j).2.1 * 8 + nI j) 32 := by rw [zz_x]; exact vp_in_nI (by omega) (by decide)
        refine ⟨v1, nm_r (e' := zz_i (es_sw (es_run m S T j).1 (es_run m S T j).2.1 (es_t m j (es_run m S T j)) (8 * (es_run m S T j).2.1 + j))) (by rw [c1]; exact hw1 _ (by omega) j (by omega)) ⟨m + 1, ?_⟩⟩
        refine xl_cl16 _ (nI r) ft fo fc tA sA xA p c (es_sw (es_run m S T j).1 (es_run m S T j).2.1 (es_t m j (es_run m S T j))) m (es_run m S T j).2.1 j (es_run m S T j).2.2.2.2.1 hm (by omega) (by omega) hd0 hdb (fun q hq c hc => es_bW1 hm hI ht' hq hc) (fun w2 hw2 => ?_) m 0 (m + 1) w1 (by omega) (by omega) (fun q hq c hc => by rw [if_neg (by omega)]; exact hw1 q hq c hc)
        have hdd : w2 (8 * (es_run m S T j).2.1 + j) = zz_i (es_run m S T (j + 1)).2.2.2.2.1 := by
          rw [hw2 _ (by omega) j (by omega), hrun, es_clv _ (by omega), if_neg (by omega)]
        have hkk : (es_run m S T (j + 1)).2.1 = (es_run m S T j).2.1 + 1 := by rw [hrun]
        refine ⟨v1, nm_r (e' := zz_i (es_run m S T (j + 1)).2.2.2.2.1) (by rw [c1]; exact hdd) ⟨vp_in_nI (by omega) (by decide), nm_r (e' := upd p (es_run m S T j).2.1 (nI j)) (by rw [nI_clamp (by omega)]) (nm_r (e' := nI (es_run m S T (j + 1)).2.1) (by rw [hkk, nI_1]) (nm_r (nI_1 j) (ih (j + 1) n x3 w2 _ c (by omega) (by omega) ?_ ?_ ?_)))⟩⟩
        · rw [hrun]; exact hw2
        · rw [hrun]
          intro i hi
          show upd p (es_run m S T j).2.1 (nI j) i = nI (if i = (es_run m S T j).2.1 then j else (es_run m S T j).2.2.2.2.2 i)
          by_cases hik : i = (es_run m S T j).2.1
          · rw [if_pos hik, hik, pk_us]
          · rw [if_neg hik, pk_un hik]
            exact hp i (by have : i < (es_run m S T j).2.1 + 1 := hi; omega)
        · rw [hrun]; exact hx
      · have ht' : ¬ es_t m j (es_run m S T j) < m := ht
        rw [es_c hb ht'] at hrun
        refine br_t (by decide) ?_
        rcases hx with ⟨ho, rfl⟩ | ⟨ho, rfl⟩
        · refine br_f (by decide) (nm_r (nI_1 j) ?_)
          have := ih (j + 1) n (nI j) w p c (by omega) (by omega) (by rw [hrun]; exact hw) (by rw [hrun]; exact hp) (by rw [hrun]; exact Or.inr ⟨by show (es_run m S T j).2.2.1 + 1 = 1; omega, rfl⟩)
          rw [hrun] at this
          exact this
        · refine br_t (nI_pos' (by have := es_of (m := m) (S := S) (T := T) j (by omega); omega)) (h0 (fun z => ?_) w p c)
          have h2 := (es_km (m := m) (S := S) (T := T) (j := j + 1) 8 (by omega)).2
          rw [hrun] at h2
          have h3 : (es_run m S T j).2.2.1 + 1 ≤ (es_run m S T 8).2.2.1 := h2
          have := z.1
          omega
    · rw [es_a hb] at hrun
      refine xw_b0 (by omega) (by omega) hb (br_t rfl (nm_r (nI_1 j) ?_))
      have := ih (j + 1) n x3 w p c (by omega) (by omega) (by rw [hrun]; exact hw) (by rw [hrun]; exact hp) (by rw [hrun]; exact hx)
      rw [hrun] at this
      exact this
theorem xl_find (post : Int32 → SX → Prop) (ft fo fc : Int32) (tA sA xA w p c : Nat → Int32) (m r S : Nat) (T : Nat → Int) (hm : m ≤ 4) (hr : r ≤ 8) (hS : S < 256) (hSr : ∀ j, r ≤ j → ¬ S.testBit j = true) (hT : ∀ i, (T i).natAbs ≤ 3) (hA : ∀ i, i < 32 → tA i = zz_i (T i))
    (h1 : es_ok m S T → ∀ w p c : Nat → Int32, (∀ j, j < 8 → c j = zz_i (es_v m S T j)) → post 1 (nI m, nI r, ft, fo, fc, tA, sA, xA, w, p, c))
    (h0 : ¬ es_ok m S T → ∀ w p c : Nat → Int32, post 0 (nI m, nI r, ft, fo, fc, tA, sA, xA, w, p, c)) :
    wpX_findLine post (nI m, nI r, ft, fo, fc, tA, sA, xA, w, p, c) (nI S) := by
  refine ⟨33, xl_copy _ (nI m) (nI r) ft fo fc tA sA xA p c T hA (fun w' hw' => ⟨r + 1, ?_⟩) 32 0 33 w rfl (by decide) (fun q hq => absurd hq (Nat.not_lt_zero _))⟩
  exact xl_f14 post ft fo fc tA sA xA m r S T hm hr hS hSr hT h1 h0 r 0 (r + 1) (-1) w' p c (by omega) (by omega) (fun q hq c hc => hw' _ (by omega)) (fun i hi => absurd hi (Nat.not_lt_zero _)) (Or.inl ⟨rfl, rfl⟩)
end
section
/-! the reference's greatest common divisor, and that of a row -/
section
variable (fm fr fc : Int32) (tA bA oA : Nat → Int32) (w : Nat → Int64) (sI : Nat → Int32) (vA : Nat → Int64) (uA nA xA : Nat → Int32)
theorem ze_3 {x y z k : Nat} (hz : z < y) (hx : y + z ≤ x) (h : (x + y) * 2 ^ (k + 1) ≤ 3 ^ (k + 1)) : (y + z) * 2 ^ k ≤ 3 ^ k := by
  rw [Nat.pow_succ, Nat.pow_succ] at h
  generalize 2 ^ k = P at h
  generalize 3 ^ k = Q at h
  have h1 : 3 * (y + z) ≤ 2 * (x + y) := by omega
  have h2 := Nat.mul_le_mul_right P h1
  have e1 : (x + y) * (P * 2) = 2 * (x + y) * P := by grind
  have e2 : 3 * (y + z) * P = 3 * ((y + z) * P) := by grind
  rw [e1] at h
  rw [e2] at h2
  omega
theorem ze_y (post : Int64 → Prop) : ∀ (k x y s n : Nat), y ≤ x → (x + y) * 2 ^ k ≤ 3 ^ k → s + k ≤ 100 → k < n → x < 2 ^ 63 → post (lN (Nat.gcd x y)) → wY_divisor_31 post fm fr fc tA bA oA w sI vA uA nA xA n (lN x) (lN y) (nI s) := by
  intro k
  induction k with
  | zero =>
    intro x y s n hy hb hs hn hx hp
    obtain ⟨n, rfl⟩ : ∃ k, n = k + 1 := ⟨n - 1, by omega⟩
    have h0 : y = 0 := by omega
    subst h0
    rw [Nat.gcd_zero_right] at hp
    rw [wY_divisor_31]
    exact pk_le 100 s (fun _ => hp) (fun _ => br_t rfl hp)
  | succ k ih =>
    intro x y s n hy hb hs hn hx hp
    obtain ⟨n, rfl⟩ : ∃ k, n = k + 1 := ⟨n - 1, by omega⟩
    rw [wY_divisor_31]
    refine pk_le 100 s (fun h => by omega) (fun _ => ?_)
    by_cases h0 : y = 0
    · subst h0
      rw [Nat.gcd_zero_right] at hp
      exact br_t rfl hp
    · have hz : x % y < y := Nat.mod_lt _ (by omega)
      have hx2 : y + x % y ≤ x := by
        have h1 := Nat.div_add_mod x y
        have h2 : 1 ≤ x / y := (Nat.one_le_div_iff (by omega)).mpr hy
        have h3 := Nat.mul_le_mul_left y h2
        omega
      have h2 : ¬ lN y = 0 := fun z => h0 ((pk_lEQ (b := 0) (by omega) (by decide)).mp z)
      refine br_f h2 ⟨h2, nm_r (pk_lRem hx (by omega) (by omega)) (nm_r (nI_1 s) ?_)⟩
      refine ih y (x % y) (s + 1) n (by omega) (ze_3 hz hx2 hb) (by omega) (by omega) (by omega) ?_
      rw [Nat.gcd_comm y, ← Nat.gcd_rec y x, Nat.gcd_comm]
      exact hp
theorem ze_y0 (post : Int64 → Prop) {x y : Nat} (hx : x ≤ 36028797018963968) (hy : y ≤ 36028797018963968) (hp : post (lN (Nat.gcd x y))) : ∃ n, wY_divisor_31 post fm fr fc tA bA oA w sI vA uA nA xA n (lN x) (lN y) 0 := by
  by_cases h : y ≤ x
  · refine ⟨101, ze_y fm fr fc tA bA oA w sI vA uA nA xA post 100 x y 0 101 h ?_ (by decide) (by decide) (by omega) hp⟩
    exact Nat.le_trans (Nat.mul_le_mul_right _ (show x + y ≤ 72057594037927936 by omega)) (by decide)
  · refine ⟨101, ?_⟩
    rw [wY_divisor_31]
    refine pk_le 100 0 (fun h => by omega) (fun _ => ?_)
    have h2 : ¬ lN y = 0 := fun z => by have := (pk_lEQ (b := 0) (by omega) (by decide)).mp z; omega
    have hm : x % y = x := Nat.mod_eq_of_lt (by omega)
    refine br_f h2 ⟨h2, nm_r (pk_lRem (by omega) (by omega) (by omega)) (nm_r (nI_1 0) ?_)⟩
    rw [hm]
    refine ze_y fm fr fc tA bA oA w sI vA uA nA xA post 99 y x 1 100 (by omega) ?_ (by decide) (by decide) (by omega) (by rw [Nat.gcd_comm]; exact hp)
    exact Nat.le_trans (Nat.mul_le_mul_right _ (show y + x ≤ 72057594037927936 by omega)) (by decide)
end
theorem yw_div (post : Int64 → Prop) (u : SY) {a b : Int} (ha : a.natAbs ≤ 36028797018963968) (hb : b.natAbs ≤ 36028797018963968) (hp : post (zz_l (Int.gcd a b))) : wpY_divisor post u (zz_l a) (zz_l b) := by
  obtain ⟨fm, fr, fc, tA, bA, oA, w, sI, vA, uA, nA, xA⟩ := u
  have hp' : post (lN (Nat.gcd a.natAbs b.natAbs)) := by rw [zz_nl]; exact hp
  have H := ze_y0 fm fr fc tA bA oA w sI vA uA nA xA post ha hb hp'
  have H2 : wY_divisor_12 post (zz_l b) (lN a.natAbs) fm fr fc tA bA oA w sI vA uA nA xA := by
    by_cases h : 0 ≤ b
    · refine br_t ((zz_l0le (by omega)).mpr h) ?_
      rw [zz_lbs h]; exact H
    · refine br_f (fun z => h ((zz_l0le (by omega)).mp z)) (nm_r (zz_lbn h) H)
  by_cases h : 0 ≤ a
  · refine br_t ((zz_l0le (by omega)).mpr h) ?_
    rw [zz_lbs h]; exact H2
  · refine br_f (fun z => h ((zz_l0le (by omega)).mp z)) ?_
    rw [zz_lbn h]; exact H2
def zz_gg (f : Nat → Int) : Nat → Nat
  | 0 => 0
  | n + 1 => Nat.gcd (zz_gg f n) (f n).natAbs
theorem gg_s (f : Nat → Int) (n : Nat) : Int.gcd (zz_gg f n : Int) (f n) = zz_gg f (n + 1) := rfl
theorem gg_c {f g : Nat → Int} : ∀ n, (∀ c, c < n → f c = g c) → zz_gg f n = zz_gg g n := by
  intro n
  induction n with
  | zero => intro _; rfl
  | succ n ih =>
    intro h
    show Nat.gcd _ _ = Nat.gcd _ _
    rw [ih (fun c hc => h c (by omega)), h n (by omega)]
theorem gg_m (a : Int) (f : Nat → Int) : ∀ n, zz_gg (fun c => a * f c) n = a.natAbs * zz_gg f n := by
  intro n
  induction n with
  | zero => rfl
  | succ n ih =>
    show Nat.gcd (zz_gg (fun c => a * f c) n) (a * f n).natAbs = a.natAbs * Nat.gcd (zz_gg f n) (f n).natAbs
    rw [ih, Int.natAbs_mul, Nat.gcd_mul_left]
theorem gg_d {f : Nat → Int} : ∀ n c, c < n → zz_gg f n ∣ (f c).natAbs := by
  intro n
  induction n with
  | zero => intro c hc; omega
  | succ n ih =>
    intro c hc
    by_cases h : c = n
    · rw [h]; exact Nat.gcd_dvd_right _ _
    · exact Nat.dvd_trans (Nat.gcd_dvd_left _ _) (ih c (by omega))
theorem gg_o {f : Nat → Int} {k : Nat} : ∀ n, (∀ c, c < n → k ∣ (f c).natAbs) → k ∣ zz_gg f n := by
  intro n
  induction n with
  | zero => intro _; exact Nat.dvd_zero k
  | succ n ih => intro h; exact Nat.dvd_gcd (ih (fun c hc => h c (by omega))) (h n (by omega))
theorem gg_z {f : Nat → Int} {n : Nat} (h : zz_gg f n = 0) {c : Nat} (hc : c < n) : f c = 0 := by
  have := gg_d (f := f) n c hc
  rw [h] at this
  have := Nat.eq_zero_of_zero_dvd this
  omega
theorem gg_b {f : Nat → Int} {B : Nat} : ∀ n, (∀ c, c < n → (f c).natAbs ≤ B) → zz_gg f n ≤ B := by
  intro n
  induction n with
  | zero => intro _; exact Nat.zero_le _
  | succ n ih =>
    intro h
    have h1 := ih (fun c hc => h c (by omega))
    have h2 := h n (by omega)
    show Nat.gcd _ _ ≤ B
    by_cases hz : (f n).natAbs = 0
    · rw [hz, Nat.gcd_zero_right]; exact h1
    · exact Nat.le_trans (Nat.gcd_le_right _ (by omega)) h2
/-- a primitive vector on a line is no longer than any other whole one there -/
theorem gg_p {x y : Nat → Int} {α β : Int} {n : Nat} (hα : α ≠ 0) (hβ : β ≠ 0) (h : ∀ c, c < n → α * x c = β * y c) (h1 : zz_gg y n = 1) {c : Nat} (hc : c < n) : (y c).natAbs ≤ (x c).natAbs := by
  have h2 : α.natAbs ∣ zz_gg (fun c => β * y c) n := by
    refine gg_o n (fun c hc => ?_)
    show α.natAbs ∣ (β * y c).natAbs
    rw [← h c hc, Int.natAbs_mul]
    exact Nat.dvd_mul_right _ _
  rw [gg_m, h1, Nat.mul_one] at h2
  obtain ⟨s, hs⟩ := h2
  have h3 : α.natAbs * (x c).natAbs = α.natAbs * (s * (y c).natAbs) := by
    rw [← Int.natAbs_mul, h c hc, Int.natAbs_mul, hs, Nat.mul_assoc]
  have h4 := Nat.eq_of_mul_eq_mul_left (by omega) h3
  have hs0 : 1 ≤ s := by
    rcases Nat.eq_zero_or_pos s with h0 | h0
    · rw [h0, Nat.mul_zero] at hs; omega
    · exact h0
  rw [h4]
  exact Nat.le_mul_of_pos_left _ hs0
end
section
/-! the reference's elimination: its rows are multiples of the component's -/
def ya_E (a : Nat → Int64) (Y : Nat → Int) : Prop := ∀ q, q < 4 → ∀ c, c < 8 → a (8 * q + c) = zz_l (Y (8 * q + c))
def ya_M (S : Nat) (W : Nat → Int) (q c : Nat) : Int := if S.testBit c = true then W (8 * q + c) else 0
def ya_R (S : Nat) (W Y : Nat → Int) (q : Nat) : Prop := (∃ α β : Int, α ≠ 0 ∧ β ≠ 0 ∧ ∀ c, c < 8 → α * ya_M S W q c = β * Y (8 * q + c)) ∧ ∀ c, c < 8 → (Y (8 * q + c)).natAbs ≤ 1944
theorem ya_z {S : Nat} {W Y : Nat → Int} {q c : Nat} (h : ya_R S W Y q) (hc : c < 8) (hb : S.testBit c = true) : Y (8 * q + c) = 0 ↔ W (8 * q + c) = 0 := by
  obtain ⟨⟨α, β, hα, hβ, hh⟩, _⟩ := h
  have e := hh c hc
  unfold ya_M at e
  rw [if_pos hb] at e
  constructor
  · intro z
    rw [z, Int.mul_zero] at e
    exact (Int.mul_eq_zero.mp e).resolve_left hα
  · intro z
    rw [z, Int.mul_zero] at e
    exact (Int.mul_eq_zero.mp e.symm).resolve_left hβ
theorem yw_i1 {post : Int32 → Prop} (u : SY) {S j : Nat} (hS : S < 2 ^ 31) (hj : j < 32) (hb : S.testBit j = true) (h : post 1) : wpY_in post u (nI S) (nI j) := by
  obtain ⟨fm, fr, fc, tA, bA, oA, w, sI, vA, uA, nA, xA⟩ := u
  exact br_t (zz_b1 hS hj hb) h
theorem yw_i0 {post : Int32 → Prop} (u : SY) {S j : Nat} (hS : S < 2 ^ 31) (hj : j < 32) (hb : ¬ S.testBit j = true) (h : post 0) : wpY_in post u (nI S) (nI j) := by
  obtain ⟨fm, fr, fc, tA, bA, oA, w, sI, vA, uA, nA, xA⟩ := u
  refine br_f ?_ h
  rw [zz_b0 hS hj hb]; decide
def ys_d (Z : Nat → Int) (q g : Nat) : Nat → Int := fun i => if i / 8 = q then (Z i).tdiv g else Z i
def ys_c (Y : Nat → Int) (q p j : Nat) : Nat → Int := fun i => if i / 8 = q then Y i * Y (8 * p + j) - Y (8 * p + i % 8) * Y (8 * q + j) else Y i
theorem ys_dv (Z : Nat → Int) {q g r c : Nat} (hc : c < 8) : ys_d Z q g (8 * r + c) = if r = q then (Z (8 * r + c)).tdiv g else Z (8 * r + c) := by
  unfold ys_d
  rw [show (8 * r + c) / 8 = r by omega]
theorem ys_cv (Y : Nat → Int) {q p j r c : Nat} (hc : c < 8) : ys_c Y q p j (8 * r + c) = if r = q then Y (8 * r + c) * Y (8 * p + j) - Y (8 * p + c) * Y (8 * q + j) else Y (8 * r + c) := by
  unfold ys_c
  rw [show (8 * r + c) / 8 = r by omega, show (8 * r + c) % 8 = c by omega]
section
variable (fm fr fc : Int32) (tA bA oA : Nat → Int32) (sI : Nat → Int32) (vA : Nat → Int64) (uA nA xA : Nat → Int32)
theorem yl_sh45 (post : SY → Prop) (Z : Nat → Int) (q g : Nat) (hq : q < 4) (hg : 1 < g) (hgb : g ≤ 36028797018963968) (hZ : ∀ c, c < 8 → (Z (8 * q + c)).natAbs ≤ 36028797018963968)
    (hp : ∀ w, ya_E w (ys_d Z q g) → post (fm, fr, fc, tA, bA, oA, w, sI, vA, uA, nA, xA)) :
    ∀ (e i n : Nat) (w : Nat → Int64), i + e = 8 → e < n → (∀ r, r < 4 → ∀ c, c < 8 → w (8 * r + c) = if r = q ∧ c < i then zz_l (ys_d Z q g (8 * r + c)) else zz_l (Z (8 * r + c))) → wY_shorten_45 post (nI q) (zz_l g) fm fr fc n (nI i) tA bA oA w sI vA uA nA xA := by
  intro e
  induction e with
  | zero =>
    intro i n w hi hn hw
    obtain ⟨n, rfl⟩ : ∃ k, n = k + 1 := ⟨n - 1, by omega⟩
    rw [wY_shorten_45]
    refine pk_le 8 i (fun _ => hp w (fun r hr c hc => ?_)) (fun h => by omega)
    rw [hw r hr c hc]
    by_cases h : r = q
    · rw [if_pos ⟨h, by omega⟩]
    · rw [if_neg (fun z => h z.1), ys_dv _ hc, if_neg h]
  | succ e ih =>
    intro i n w hi hn hw
    obtain ⟨n, rfl⟩ : ∃ k, n = k + 1 := ⟨n - 1, by omega⟩
    rw [wY_shorten_45]
    refine pk_le 8 i (fun h => by omega) (fun h => ?_)
    have c1 : (8 * nI q + nI i).toNatClampNeg = 8 * q + i := by rw [zz_y, nI_clamp (by omega)]
    have v1 : vp_in (8 * nI q + nI i) 32 := by rw [zz_y]; exact vp_in_nI (by omega) (by decide)
    have hg0 : ¬ zz_l g = 0 := fun z => by have := (zz_le0 (by omega)).mp z; omega
    have hz := hZ i h
    refine ⟨v1, hg0, v1, nm_r (e' := vp_updL w (8 * q + i) (zz_l (ys_d Z q g (8 * q + i)))) ?_ (nm_r (nI_1 i) (ih (i + 1) n _ (by omega) (by omega) ?_))⟩
    · rw [c1, hw q hq i h, if_neg (by omega), zz_ldiv (by omega) (by omega), ys_dv _ h, if_pos rfl]
    · intro r hr c hc
      by_cases hx : r = q ∧ c = i
      · obtain ⟨rfl, rfl⟩ := hx
        rw [pk_uLs, if_pos (by omega)]
      · rw [pk_uLn (by omega), hw r hr c hc]
        by_cases hy : r = q ∧ c < i
        · rw [if_pos hy, if_pos (by omega)]
        · rw [if_neg hy, if_neg (by omega)]
theorem yl_sh (post : SY → Prop) (Z : Nat → Int) (q : Nat) (w : Nat → Int64) (hq : q < 4) (hw : ya_E w Z) (hZ : ∀ c, c < 8 → (Z (8 * q + c)).natAbs ≤ 36028797018963968)
    (h1 : zz_gg (fun c => Z (8 * q + c)) 8 ≤ 1 → post (fm, fr, fc, tA, bA, oA, w, sI, vA, uA, nA, xA))
    (h2 : 1 < zz_gg (fun c => Z (8 * q + c)) 8 → ∀ w', ya_E w' (ys_d Z q (zz_gg (fun c => Z (8 * q + c)) 8)) → post (fm, fr, fc, tA, bA, oA, w', sI, vA, uA, nA, xA)) :
    wpY_shorten post (fm, fr, fc, tA, bA, oA, w, sI, vA, uA, nA, xA) (nI q) := by
  have hB : ∀ n, n ≤ 8 → zz_gg (fun c => Z (8 * q + c)) n ≤ 36028797018963968 := fun n hn => gg_b n (fun c hc => hZ c (by omega))
  have H : ∀ (e i n : Nat), i + e = 8 → e < n → wY_shorten_5 post (nI q) fm fr fc tA bA oA w sI vA uA nA xA n (zz_l (zz_gg (fun c => Z (8 * q + c)) i)) (nI i) := by
    intro e
    induction e with
    | zero =>
      intro i n hi hn
      obtain ⟨n, rfl⟩ : ∃ k, n = k + 1 := ⟨n - 1, by omega⟩
      rw [wY_shorten_5]
      have hi8 : i = 8 := by omega
      subst hi8
      have hb := hB 8 (by omega)
      refine pk_le 8 8 (fun _ => ?_) (fun h => by omega)
      by_cases hg : zz_gg (fun c => Z (8 * q + c)) 8 ≤ 1
      · exact br_t ((zz_lle1 (by omega)).mpr (by omega)) (h1 hg)
      · refine br_f (fun z => by have := (zz_lle1 (by omega)).mp z; omega) ⟨9, ?_⟩
        refine yl_sh45 fm fr fc tA bA oA sI vA uA nA xA post Z q _ hq (by omega) hb hZ (h2 (by omega)) 8 0 9 w rfl (by decide) (fun r hr c hc => ?_)
        rw [if_neg (by omega)]; exact hw r hr c hc
    | succ e ih =>
      intro i n hi hn
      obtain ⟨n, rfl⟩ : ∃ k, n = k + 1 := ⟨n - 1, by omega⟩
      rw [wY_shorten_5]
      refine pk_le 8 i (fun h => by omega) (fun h => ?_)
      have c1 : (8 * nI q + nI i).toNatClampNeg = 8 * q + i := by rw [zz_y, nI_clamp (by omega)]
      have v1 : vp_in (8 * nI q + nI i) 32 := by rw [zz_y]; exact vp_in_nI (by omega) (by decide)
      refine ⟨v1, ?_⟩
      rw [c1, hw q hq i h]
      have hb := hB i (by omega)
      refine yw_div _ _ (by omega) (hZ i h) (nm_r (nI_1 i) (ih (i + 1) n (by omega) (by omega)))
  exact ⟨9, H 8 0 9 rfl (by decide)⟩
theorem yl_cl37 (post : SY → Prop) (Y : Nat → Int) (q p j : Nat) (hq : q < 4) (hp4 : p < 4) (hqp : q ≠ p) (hj : j < 8)
    (hp : ∀ w, ya_E w (ys_c Y q p j) → wpY_shorten post (fm, fr, fc, tA, bA, oA, w, sI, vA, uA, nA, xA) (nI q)) :
    ∀ (e i n : Nat) (w : Nat → Int64), i + e = 8 → e < n → (∀ r, r < 4 → ∀ c, c < 8 → w (8 * r + c) = if r = q ∧ c < i then zz_l (ys_c Y q p j (8 * r + c)) else zz_l (Y (8 * r + c))) → wY_clear_37 post (nI q) (nI p) (zz_l (Y (8 * q + j))) (zz_l (Y (8 * p + j))) fm fr fc n (nI i) tA bA oA w sI vA uA nA xA := by
  intro e
  induction e with
  | zero =>
    intro i n w hi hn hw
    obtain ⟨n, rfl⟩ : ∃ k, n = k + 1 := ⟨n - 1, by omega⟩
    rw [wY_clear_37]
    refine pk_le 8 i (fun _ => hp w (fun r hr c hc => ?_)) (fun h => by omega)
    rw [hw r hr c hc]
    by_cases h : r = q
    · rw [if_pos ⟨h, by omega⟩]
    · rw [if_neg (fun z => h z.1), ys_cv _ hc, if_neg h]
  | succ e ih =>
    intro i n w hi hn hw
    obtain ⟨n, rfl⟩ : ∃ k, n = k + 1 := ⟨n - 1, by omega⟩
    rw [wY_clear_37]
    refine pk_le 8 i (fun h => by omega) (fun h => ?_)
    have c1 : (8 * nI q + nI i).toNatClampNeg = 8 * q + i := by rw [zz_y, nI_clamp (by omega)]
    have v1 : vp_in (8 * nI q + nI i) 32 := by rw [zz_y]; exact vp_in_nI (by omega) (by decide)
    have c2 : (8 * nI p + nI i).toNatClampNeg = 8 * p + i := by rw [zz_y, nI_clamp (by omega)]
    have v2 : vp_in (8 * nI p + nI i) 32 := by rw [zz_y]; exact vp_in_nI (by omega) (by decide)
    refine ⟨v1, v2, v1, nm_r (e' := vp_updL w (8 * q + i) (zz_l (ys_c Y q p j (8 * q + i)))) ?_ (nm_r (nI_1 i) (ih (i + 1) n _ (by omega) (by omega) ?_))⟩
    · rw [c1, c2, hw q hq i h, if_neg (by omega), hw p hp4 i h, if_neg (by omega), zz_lmul, zz_lmul, zz_lsub, ys_cv _ h, if_pos rfl]
    · intro r hr c hc
      by_cases hx : r = q ∧ c = i
      · obtain ⟨rfl, rfl⟩ := hx
        rw [pk_uLs, if_pos (by omega)]
      · rw [pk_uLn (by omega), hw r hr c hc]
        by_cases hy : r = q ∧ c < i
        · rw [if_pos hy, if_pos (by omega)]
        · rw [if_neg hy, if_neg (by omega)]
theorem yl_cl (post : SY → Prop) (Y : Nat → Int) (w : Nat → Int64) (q p j : Nat) (hq : q < 4) (hp4 : p < 4) (hqp : q ≠ p) (hj : j < 8) (hw : ya_E w Y) (bq : ∀ c, c < 8 → (Y (8 * q + c)).natAbs ≤ 1944) (bp : ∀ c, c < 8 → (Y (8 * p + c)).natAbs ≤ 1944)
    (h0 : Y (8 * q + j) = 0 → post (fm, fr, fc, tA, bA, oA, w, sI, vA, uA, nA, xA))
    (h1 : Y (8 * q + j) ≠ 0 → zz_gg (fun c => ys_c Y q p j (8 * q + c)) 8 ≤ 1 → ∀ w', ya_E w' (ys_c Y q p j) → post (fm, fr, fc, tA, bA, oA, w', sI, vA, uA, nA, xA))
    (h2 : Y (8 * q + j) ≠ 0 → 1 < zz_gg (fun c => ys_c Y q p j (8 * q + c)) 8 → ∀ w', ya_E w' (ys_d (ys_c Y q p j) q (zz_gg (fun c => ys_c Y q p j (8 * q + c)) 8)) → post (fm, fr, fc, tA, bA, oA, w', sI, vA, uA, nA, xA)) :
    wpY_clear post (fm, fr, fc, tA, bA, oA, w, sI, vA, uA, nA, xA) (nI q) (nI p) (nI j) := by
  have c1 : (8 * nI q + nI j).toNatClampNeg = 8 * q + j := by rw [zz_y, nI_clamp (by omega)]
  have v1 : vp_in (8 * nI q + nI j) 32 := by rw [zz_y]; exact vp_in_nI (by omega) (by decide)
  have c2 : (8 * nI p + nI j).toNatClampNeg = 8 * p + j := by rw [zz_y, nI_clamp (by omega)]
  have v2 : vp_in (8 * nI p + nI j) 32 := by rw [zz_y]; exact vp_in_nI (by omega) (by decide)
  have bz : ∀ c, c < 8 → (ys_c Y q p j (8 * q + c)).natAbs ≤ 36028797018963968 := by
    intro c hc
    rw [ys_cv _ hc, if_pos rfl]
    have b1 := zz_mb (bq c hc) (bp j hj)
    have b2 := zz_mb (bp c hc) (bq j hj)
    omega
  refine ⟨v1, nm_r (e' := zz_l (Y (8 * q + j))) (by rw [c1]; exact hw q hq j hj) ⟨v2, nm_r (e' := zz_l (Y (8 * p + j))) (by rw [c2]; exact hw p hp4 j hj) ?_⟩⟩
  have bj := bq j hj
  by_cases hz : Y (8 * q + j) = 0
  · exact br_t ((zz_le0 (by omega)).mpr hz) (h0 hz)
  · refine br_f (fun z => hz ((zz_le0 (by omega)).mp z)) ⟨9, ?_⟩
    refine yl_cl37 fm fr fc tA bA oA sI vA uA nA xA post Y q p j hq hp4 hqp hj (fun w1 hw1 => ?_) 8 0 9 w rfl (by decide) (fun r hr c hc => by rw [if_neg (by omega)]; exact hw r hr c hc)
    exact yl_sh fm fr fc tA bA oA sI vA uA nA xA post (ys_c Y q p j) q w1 hq hw1 bz (fun hg => h1 hz hg w1 hw1) (fun hg w' hw' => h2 hz hg w' hw')
theorem yl_pk34 (post : Int32 → SY → Prop) (Y : Nat → Int) (s t : Nat) (hs : s < 4) (ht : t < 4) (hp : ∀ w, ya_E w (es_sw Y s t) → post (nI s) (fm, fr, fc, tA, bA, oA, w, sI, vA, uA, nA, xA)) :
    ∀ (d i n : Nat) (w : Nat → Int64), i + d = 8 → d < n → (∀ q, q < 4 → ∀ c, c < 8 → w (8 * q + c) = if c < i then zz_l (es_sw Y s t (8 * q + c)) else zz_l (Y (8 * q + c))) → wY_pick_34 post (nI s) (nI t) fm fr fc n (nI i) tA bA oA w sI vA uA nA xA := by
  intro d
  induction d with
  | zero =>
    intro i n w hi hn hw
    obtain ⟨n, rfl⟩ : ∃ k, n = k + 1 := ⟨n - 1, by omega⟩
    rw [wY_pick_34]
    refine pk_le 8 i (fun _ => hp w (fun q hq c hc => ?_)) (fun h => by omega)
    rw [hw q hq c hc, if_pos (by omega)]
  | succ d ih =>
    intro i n w hi hn hw
    obtain ⟨n, rfl⟩ : ∃ k, n = k + 1 := ⟨n - 1, by omega⟩
    rw [wY_pick_34]
    refine pk_le 8 i (fun h => by omega) (fun h => ?_)
    have c1 : (8 * nI s + nI i).toNatClampNeg = 8 * s + i := by rw [zz_y, nI_clamp (by omega)]
    have c2 : (8 * nI t + nI i).toNatClampNeg = 8 * t + i := by rw [zz_y, nI_clamp (by omega)]
    have v1 : vp_in (8 * nI s + nI i) 32 := by rw [zz_y]; exact vp_in_nI (by omega) (by decide)
    have v2 : vp_in (8 * nI t + nI i) 32 := by rw [zz_y]; exact vp_in_nI (by omega) (by decide)
    refine ⟨v2, nm_r (congrArg w c2) ⟨v1, v2, nm_r (e' := vp_updL w (8 * t + i) (w (8 * s + i))) (by rw [c1, c2]) ⟨v1, nm_r (e' := vp_updL (vp_updL w (8 * t + i) (w (8 * s + i))) (8 * s + i) (w (8 * t + i))) (by rw [c1]) (nm_r (nI_1 i) (ih (i + 1) n _ (by omega) (by omega) ?_))⟩⟩⟩
    intro q hq c hc
    by_cases hci : c = i
    · subst hci
      rw [if_pos (by omega), es_swv _ hc]
      by_cases hqs : q = s
      · subst hqs
        rw [pk_uLs, if_pos rfl, hw t ht c hc, if_neg (by omega)]
      · rw [pk_uLn (by omega), if_neg hqs]
        by_cases hqt : q = t
        · subst hqt
          rw [pk_uLs, if_pos rfl, hw s hs c hc, if_neg (by omega)]
        · rw [pk_uLn (by omega), if_neg hqt, hw q hq c hc, if_neg (by omega)]
    · rw [pk_uLn (by omega), pk_uLn (by omega), hw q hq c hc]
      by_cases hlt : c < i
      · rw [if_pos hlt, if_pos (by omega)]
      · rw [if_neg hlt, if_neg (by omega)]
theorem yl_pk2 (post : Int32 → SY → Prop) (W Y : Nat → Int) (w : Nat → Int64) (m k j S : Nat) (hm : m ≤ 4) (hk : k < 4) (hj : j < 8) (hb : S.testBit j = true) (hw : ya_E w Y) (hR : ∀ q, q < m → ya_R S W Y q) :
    ∀ (d s n : Nat), s + d = m → d < n → (es_pv W j d s < m → ∀ w', ya_E w' (es_sw Y k (es_pv W j d s)) → post (nI k) (nI m, fr, fc, tA, bA, oA, w', sI, vA, uA, nA, xA)) → (¬ es_pv W j d s < m → post (-1) (nI m, fr, fc, tA, bA, oA, w, sI, vA, uA, nA, xA)) → wY_pick_2 post (nI k) (nI j) (nI m) fr fc tA bA oA w sI vA uA nA xA n (nI s) := by
  intro d
  induction d with
  | zero =>
    intro s n hs hn h1 h2
    obtain ⟨n, rfl⟩ : ∃ k, n = k + 1 := ⟨n - 1, by omega⟩
    rw [wY_pick_2]
    exact pk_le m s (fun _ => h2 (by unfold es_pv; omega)) (fun h => by omega)
  | succ d ih =>
    intro s n hs hn h1 h2
    obtain ⟨n, rfl⟩ : ∃ k, n = k + 1 := ⟨n - 1, by omega⟩
    rw [wY_pick_2]
    refine pk_le m s (fun h => by omega) (fun h => pk_le 4 s (fun h' => by omega) (fun h' => ?_))
    rw [zz_y, nI_clamp (by omega), hw s (by omega) j hj]
    refine ⟨vp_in_nI (by omega) (by decide), ?_⟩
    have hz0 := ya_z (hR s h) hj hb
    have bd := (hR s h).2 j hj
    by_cases hz : W (8 * s + j) = 0
    · have e : es_pv W j (d + 1) s = es_pv W j d (s + 1) := if_pos hz
      rw [e] at h1 h2
      exact br_t ((zz_le0 (by omega)).mpr (hz0.mpr hz)) (nm_r (nI_1 s) (ih (s + 1) n (by omega) (by omega) h1 h2))
    · have e : es_pv W j (d + 1) s = s := if_neg hz
      rw [e] at h1
      refine br_f (fun z => hz (hz0.mp ((zz_le0 (by omega)).mp z))) ⟨9, ?_⟩
      exact yl_pk34 (nI m) fr fc tA bA oA sI vA uA nA xA post Y k s hk (by omega) (h1 h) 8 0 9 w rfl (by decide) (fun q hq c hc => by rw [if_neg (by omega)]; exact hw q hq c hc)
end
end
section
/-! the reference's elimination: a row cleared, all rows, all columns -/
theorem es_dv {m j : Nat} {e : es_T} (hm : m ≤ 4) (hj : j < 8) (h : es_I m j e) (ht : es_t m j e < m) {q c : Nat} (hq : q < m) (hqk : q ≠ e.2.1) (hc : c < 8) :
    e.2.2.2.2.1 * es_cl (es_sw e.1 e.2.1 (es_t m j e)) m e.2.1 j e.2.2.2.2.1 (8 * q + c) = es_sw e.1 e.2.1 (es_t m j e) (8 * q + c) * es_sw e.1 e.2.1 (es_t m j e) (8 * e.2.1 + j) - es_sw e.1 e.2.1 (es_t m j e) (8 * e.2.1 + c) * es_sw e.1 e.2.1 (es_t m j e) (8 * q + j) := by
  have hb := es_bd hm h
  have h1 := (es_tm (j := j) hb.2.2).1
  obtain ⟨R, hR, hW, hd⟩ := es_I1 hm h ht
  rw [es_clv _ hc, if_pos ⟨hq, hqk⟩, hW q hq c hc, hW q hq j hj, hW _ (by omega) c hc, hW _ (by omega) j hj, el_step R _ j c _ (by omega) q (by omega) hqk, ← hd, Int.mul_tdiv_cancel_left _ hb.2.1]
theorem ya_rc {S : Nat} {W W' Y Y' : Nat → Int} {q : Nat} (h : ya_R S W Y q) (hW : ∀ c, c < 8 → W' (8 * q + c) = W (8 * q + c)) (hY : ∀ c, c < 8 → Y' (8 * q + c) = Y (8 * q + c)) : ya_R S W' Y' q := by
  obtain ⟨⟨α, β, hα, hβ, hh⟩, hb⟩ := h
  refine ⟨⟨α, β, hα, hβ, fun c hc => ?_⟩, fun c hc => by rw [hY c hc]; exact hb c hc⟩
  have := hh c hc
  unfold ya_M at this ⊢
  rw [hW c hc, hY c hc]; exact this
theorem ym_M {S k q j : Nat} {W1 W2 : Nat → Int} {d : Int} (hb : S.testBit j = true) (hM : ∀ c, c < 8 → d * W2 (8 * q + c) = W1 (8 * q + c) * W1 (8 * k + j) - W1 (8 * k + c) * W1 (8 * q + j)) {c : Nat} (hc : c < 8) : d * ya_M S W2 q c = ya_M S W1 q c * ya_M S W1 k j - ya_M S W1 k c * ya_M S W1 q j := by
  unfold ya_M
  rw [if_pos hb, if_pos hb]
  by_cases h : S.testBit c = true
  · rw [if_pos h, if_pos h, if_pos h]; exact hM c hc
  · rw [if_neg h, if_neg h, if_neg h]; grind
theorem ym_0 {S k q j : Nat} {W1 W2 Y : Nat → Int} {d : Int} (hj : j < 8) (hb : S.testBit j = true) (hd : d ≠ 0) (hK : W1 (8 * k + j) ≠ 0) (hM : ∀ c, c < 8 → d * W2 (8 * q + c) = W1 (8 * q + c) * W1 (8 * k + j) - W1 (8 * k + c) * W1 (8 * q + j)) (h : ya_R S W1 Y q) (h0 : Y (8 * q + j) = 0) : ya_R S W2 Y q := by
  have hx := (ya_z h hj hb).mp h0
  obtain ⟨⟨α, β, hα, hβ, hh⟩, hbd⟩ := h
  refine ⟨⟨α * d, β * W1 (8 * k + j), Int.mul_ne_zero hα hd, Int.mul_ne_zero hβ hK, fun c hc => ?_⟩, hbd⟩
  have e := ym_M hb hM hc
  rw [show ya_M S W1 q j = 0 by unfold ya_M; rw [if_pos hb]; exact hx, show ya_M S W1 k j = W1 (8 * k + j) by unfold ya_M; rw [if_pos hb], Int.mul_zero, Int.sub_zero] at e
  rw [Int.mul_assoc, e, ← Int.mul_assoc, hh c hc]
  grind
theorem ym_1 {S k q j : Nat} {W1 W2 Y : Nat → Int} {d : Int} (hj : j < 8) (hb : S.testBit j = true) (hd : d ≠ 0) (hM : ∀ c, c < 8 → d * W2 (8 * q + c) = W1 (8 * q + c) * W1 (8 * k + j) - W1 (8 * k + c) * W1 (8 * q + j)) (hq : ya_R S W1 Y q) (hk : ya_R S W1 Y k) :
    ∃ α β : Int, α ≠ 0 ∧ β ≠ 0 ∧ ∀ c, c < 8 → α * ya_M S W2 q c = β * ys_c Y q k j (8 * q + c) := by
  obtain ⟨⟨α, β, hα, hβ, hh⟩, _⟩ := hq
  obtain ⟨⟨γ, δ, hγ, hδ, gg⟩, _⟩ := hk
  refine ⟨α * γ * d, β * δ, Int.mul_ne_zero (Int.mul_ne_zero hα hγ) hd, Int.mul_ne_zero hβ hδ, fun c hc => ?_⟩
  rw [Int.mul_assoc, ym_M hb hM hc, ys_cv _ hc, if_pos rfl]
  have e2 : α * γ * (ya_M S W1 q c * ya_M S W1 k j - ya_M S W1 k c * ya_M S W1 q j) = (α * ya_M S W1 q c) * (γ * ya_M S W1 k j) - (γ * ya_M S W1 k c) * (α * ya_M S W1 q j) := by grind
  rw [e2, hh c hc, hh j hj, gg c hc, gg j hj]
  grind
theorem ym_2 {S q g : Nat} {W2 Z Y' : Nat → Int} (hb2 : ∀ c, c < 8 → (W2 (8 * q + c)).natAbs ≤ 1944) (hg : g ≠ 0) (hZ : ∀ c, c < 8 → Z (8 * q + c) = g * Y' (8 * q + c)) (hgg : zz_gg (fun c => Y' (8 * q + c)) 8 ≤ 1)
    (h : ∃ α β : Int, α ≠ 0 ∧ β ≠ 0 ∧ ∀ c, c < 8 → α * ya_M S W2 q c = β * Z (8 * q + c)) : ya_R S W2 Y' q := by
  obtain ⟨α, β, hα, hβ, hh⟩ := h
  have hh' : ∀ c, c < 8 → α * ya_M S W2 q c = β * g * Y' (8 * q + c) := fun c hc => by rw [hh c hc, hZ c hc, Int.mul_assoc]
  have hβg : β * (g : Int) ≠ 0 := Int.mul_ne_zero hβ (by omega)
  refine ⟨⟨α, β * g, hα, hβg, hh'⟩, fun c hc => ?_⟩
  by_cases h1 : zz_gg (fun c => Y' (8 * q + c)) 8 = 0
  · have := gg_z h1 hc
    have e : Y' (8 * q + c) = 0 := this
    rw [e]; decide
  · refine Nat.le_trans (gg_p (x := fun c => ya_M S W2 q c) (y := fun c => Y' (8 * q + c)) hα hβg hh' (by omega) hc) ?_
    show (ya_M S W2 q c).natAbs ≤ 1944
    unfold ya_M
    split
    · exact hb2 c hc
    · decide
theorem ym_g {Z : Nat → Int} {q : Nat} (hg : 1 < zz_gg (fun c => Z (8 * q + c)) 8) : (∀ c, c < 8 → Z (8 * q + c) = (zz_gg (fun c => Z (8 * q + c)) 8 : Int) * ys_d Z q (zz_gg (fun c => Z (8 * q + c)) 8) (8 * q + c)) ∧ zz_gg (fun c => ys_d Z q (zz_gg (fun c => Z (8 * q + c)) 8) (8 * q + c)) 8 = 1 := by
  have h1 : ∀ c, c < 8 → Z (8 * q + c) = (zz_gg (fun c => Z (8 * q + c)) 8 : Int) * ys_d Z q (zz_gg (fun c => Z (8 * q + c)) 8) (8 * q + c) := by
    intro c hc
    rw [ys_dv _ hc, if_pos rfl]
    exact (Int.mul_tdiv_cancel' (Int.ofNat_dvd_left.mpr (gg_d (f := fun c => Z (8 * q + c)) 8 c hc))).symm
  refine ⟨h1, ?_⟩
  have h2 := gg_c (f := fun c => Z (8 * q + c)) (g := fun c => (zz_gg (fun c => Z (8 * q + c)) 8 : Int) * ys_d Z q (zz_gg (fun c => Z (8 * q + c)) 8) (8 * q + c)) 8 h1
  rw [gg_m (zz_gg (fun c => Z (8 * q + c)) 8 : Int) (fun c => ys_d Z q (zz_gg (fun c => Z (8 * q + c)) 8) (8 * q + c)) 8] at h2
  rw [Int.natAbs_natCast] at h2
  exact Nat.eq_of_mul_eq_mul_left (by omega : 0 < zz_gg (fun c => Z (8 * q + c)) 8) (by rw [Nat.mul_one]; exact h2.symm)
section
variable (fr fc : Int32) (tA bA oA : Nat → Int32) (sI : Nat → Int32) (vA : Nat → Int64) (uA nA xA : Nat → Int32)
theorem yl_133 (post : Int32 → SY → Prop) (J : Int32 → Int32 → Int32 → Int32 → Int32 → Int32 → Int32 → (Nat → Int32) → (Nat → Int32) → (Nat → Int32) → (Nat → Int64) → (Nat → Int32) → (Nat → Int64) → (Nat → Int32) → (Nat → Int32) → (Nat → Int32) → Prop) (x1 x3 x4 : Int32) (S m k j : Nat) (W1 W2 : Nat → Int) (d : Int) (hm : m ≤ 4) (hkm : k < m) (hj : j < 8) (hb : S.testBit j = true) (hd : d ≠ 0) (hK : W1 (8 * k + j) ≠ 0)
    (hM : ∀ q, q < m → q ≠ k → ∀ c, c < 8 → d * W2 (8 * q + c) = W1 (8 * q + c) * W1 (8 * k + j) - W1 (8 * k + c) * W1 (8 * q + j)) (hk2 : ∀ c, c < 8 → W2 (8 * k + c) = W1 (8 * k + c)) (hb2 : ∀ q, q < m → ∀ c, c < 8 → (W2 (8 * q + c)).natAbs ≤ 1944)
    (hJ : ∀ w Y, ya_E w Y → (∀ q, q < m → ya_R S W2 Y q) → J (nI (k + 1)) x3 x4 (nI (j + 1)) (nI m) fr fc tA bA oA w sI vA uA nA xA) :
    ∀ (e q n : Nat) (w : Nat → Int64) (Y : Nat → Int), q + e = m → e < n → ya_E w Y → (∀ r, r < m → ya_R S (if r < q then W2 else W1) Y r) → wY_solve_133 post J x1 (nI k) x3 x4 (nI j) (nI k) n (nI q) (nI m) fr fc tA bA oA w sI vA uA nA xA := by
  intro e
  induction e with
  | zero =>
    intro q n w Y hq hn hw hR
    obtain ⟨n, rfl⟩ : ∃ k, n = k + 1 := ⟨n - 1, by omega⟩
    rw [wY_solve_133]
    refine pk_le m q (fun _ => nm_r (nI_1 k) (nm_r (nI_1 j) (hJ w Y hw (fun r hr => ?_)))) (fun h => by omega)
    have := hR r hr
    rw [if_pos (by omega)] at this
    exact this
  | succ e ih =>
    intro q n w Y hq hn hw hR
    obtain ⟨n, rfl⟩ : ∃ k, n = k + 1 := ⟨n - 1, by omega⟩
    rw [wY_solve_133]
    have hRk : ya_R S W1 Y k := by
      have := hR k hkm
      by_cases h : k < q
      · rw [if_pos h] at this
        exact ya_rc this (fun c hc => (hk2 c hc).symm) (fun c hc => rfl)
      · rw [if_neg h] at this; exact this
    have hRq : ya_R S W1 Y q := by
      have := hR q (by omega)
      rw [if_neg (by omega)] at this; exact this
    refine pk_le m q (fun h => by omega) (fun h => pk_le 4 q (fun h' => by omega) (fun h' => pk_eq q k (fun hqk => nm_r (nI_1 q) (ih (q + 1) n w Y (by omega) (by omega) hw (fun r hr => ?_))) (fun hqk => ?_)))
    · by_cases hr2 : r = k
      · subst hr2
        rw [if_pos (by omega)]
        exact ya_rc hRk hk2 (fun c hc => rfl)
      · have := hR r hr
        by_cases h1 : r < q
        · rw [if_pos h1] at this; rw [if_pos (by omega)]; exact this
        · rw [if_neg h1] at this; rw [if_neg (by omega)]; exact this
    · have hMq := hM q h hqk
      have hother : ∀ Y' : Nat → Int, (∀ r, r ≠ q → ∀ c, c < 8 → Y' (8 * r + c) = Y (8 * r + c)) → ya_R S W2 Y' q → ∀ r, r < m → ya_R S (if r < q + 1 then W2 else W1) Y' r := by
        intro Y' hY' hq' r hr
        by_cases hrq : r = q
        · subst hrq; rw [if_pos (by omega)]; exact hq'
        · have := ya_rc (hR r hr) (fun c hc => rfl) (hY' r hrq)
          by_cases h1 : r < q
          · rw [if_pos h1] at this; rw [if_pos (by omega)]; exact this
          · rw [if_neg h1] at this; rw [if_neg (by omega)]; exact this
      refine yl_cl (nI m) fr fc tA bA oA sI vA uA nA xA _ Y w q k j (by omega) (by omega) hqk hj hw hRq.2 hRk.2 (fun h0 => ?_) (fun h0 hg w' hw' => ?_) (fun h0 hg w' hw' => ?_)
      · exact nm_r (nI_1 q) (ih (q + 1) n w Y (by omega) (by omega) hw (hother Y (fun r hr c hc => rfl) (ym_0 hj hb hd hK hMq hRq h0)))
      · refine nm_r (nI_1 q) (ih (q + 1) n w' _ (by omega) (by omega) hw' (hother _ (fun r hr c hc => by rw [ys_cv _ hc, if_neg hr]) ?_))
        exact ym_2 (g := 1) (hb2 q h) (by decide) (fun c hc => (Int.one_mul _).symm) hg (ym_1 hj hb hd hMq hRq hRk)
      · obtain ⟨e1, e2⟩ := ym_g hg
        refine nm_r (nI_1 q) (ih (q + 1) n w' _ (by omega) (by omega) hw' (hother _ (fun r hr c hc => by rw [ys_dv _ hc, if_neg hr, ys_cv _ hc, if_neg hr]) ?_))
        exact ym_2 (hb2 q h) (by omega) e1 (by omega) (ym_1 hj hb hd hMq hRq hRk)
theorem yl_73 (post : Int32 → SY → Prop) (m S : Nat) (T : Nat → Int) (hm : m ≤ 4) (hS : S < 256) (hT : ∀ i, (T i).natAbs ≤ 3)
    (h1 : (es_run m S T 8).2.2.1 = 1 → ∀ (w : Nat → Int64) (s : Nat → Int32) (Y : Nat → Int), ya_E w Y → (∀ q, q < m → ya_R S (es_run m S T 8).1 Y q) → (∀ j, j < 8 → (es_P m S T j → s j = nI (es_run m S T j).2.1) ∧ (¬ es_P m S T j → s j = -1)) → post (nI (es_run m S T 8).2.2.2.1) (nI m, fr, fc, tA, bA, oA, w, s, vA, uA, nA, xA))
    (h0 : (es_run m S T 8).2.2.1 ≠ 1 → ∀ (w : Nat → Int64) (s : Nat → Int32), post (-1) (nI m, fr, fc, tA, bA, oA, w, s, vA, uA, nA, xA)) :
    ∀ (e j n : Nat) (x3 : Int32) (w : Nat → Int64) (s : Nat → Int32) (Y : Nat → Int), j + e = 8 → e < n → ya_E w Y → (∀ q, q < m → ya_R S (es_run m S T j).1 Y q) → (∀ i, i < j → (es_P m S T i → s i = nI (es_run m S T i).2.1) ∧ (¬ es_P m S T i → s i = -1)) → (1 ≤ (es_run m S T j).2.2.1 → x3 = nI (es_run m S T j).2.2.2.1) → (es_run m S T j).2.2.1 ≤ j →
      wY_solve_73 post (nI S) n (nI (es_run m S T j).2.1) x3 (nI (es_run m S T j).2.2.1) (nI j) (nI m) fr fc tA bA oA w s vA uA nA xA := by
  intro e
  induction e with
  | zero =>
    intro j n x3 w s Y hj hn hw hR hs hx ho
    obtain ⟨n, rfl⟩ : ∃ k, n = k + 1 := ⟨n - 1, by omega⟩
    have hj8 : j = 8 := by omega
    subst hj8
    rw [wY_solve_73]
    refine pk_le 8 8 (fun _ => pk_eq (es_run m S T 8).2.2.1 1 (fun ho1 => ?_) (fun ho1 => h0 ho1 w s)) (fun h => by omega)
    rw [hx (by omega)]
    exact h1 ho1 w s Y hw hR hs
  | succ e ih =>
    intro j n x3 w s Y hj hn hw hR hs hx ho
    obtain ⟨n, rfl⟩ : ∃ k, n = k + 1 := ⟨n - 1, by omega⟩
    have hI := es_Ir (S := S) hm hT j (by omega)
    obtain ⟨hdb, hd0, hk⟩ := es_bd hm hI
    have hrun : es_run m S T (j + 1) = es_st m S j (es_run m S T j) := rfl
    rw [wY_solve_73]
    refine pk_le 8 j (fun h => by omega) (fun h => ⟨vp_in_nI h (by decide), nm_r (e' := upd s j (-1)) (by rw [nI_clamp (by omega)]) ?_⟩)
    have hs1 : ¬ es_P m S T j → ∀ i, i < j + 1 → (es_P m S T i → upd s j (-1) i = nI (es_run m S T i).2.1) ∧ (¬ es_P m S T i → upd s j (-1) i = -1) := by
      intro hnp i hi
      by_cases hij : i = j
      · subst hij; exact ⟨fun z => absurd z hnp, fun _ => pk_us⟩
      · rw [pk_un hij]; exact hs i (by omega)
    by_cases hb : S.testBit j = true
    · refine yw_i1 _ (by omega) (by omega) hb (br_f (by decide) ⟨m + 1, ?_⟩)
      by_cases hk4 : (es_run m S T j).2.1 < 4
      · refine yl_pk2 fr fc tA bA oA (upd s j (-1)) vA uA nA xA _ (es_run m S T j).1 Y w m (es_run m S T j).2.1 j S hm hk4 h hb hw hR (m - (es_run m S T j).2.1) (es_run m S T j).2.1 (m + 1) (by omega) (by omega) (fun ht w1 hw1 => ?_) (fun ht => ?_)
        · have ht' : es_t m j (es_run m S T j) < m := ht
          obtain ⟨ht1, ht2, ht3, ht4⟩ := es_tm (j := j) hk
          have hP : es_P m S T j := ⟨hb, ht'⟩
          rw [es_b hb ht'] at hrun
          have hI1 := es_Ir (S := S) hm hT (j + 1) (by omega)
          refine br_t (nI_pos' (by omega)) ⟨vp_in_nI h (by decide), nm_r (e' := upd (upd s j (-1)) j (nI (es_run m S T j).2.1)) (by rw [nI_clamp (by omega)]) ⟨m + 1, ?_⟩⟩
          refine yl_133 fr fc tA bA oA _ vA uA nA xA post _ (nI S) x3 _ S m (es_run m S T j).2.1 j (es_sw (es_run m S T j).1 (es_run m S T j).2.1 (es_t m j (es_run m S T j))) (es_run m S T (j + 1)).1 (es_run m S T j).2.2.2.2.1 hm (by omega) h hb hd0 ?_ ?_ ?_ ?_ ?_ m 0 (m + 1) w1 (es_sw Y (es_run m S T j).2.1 (es_t m j (es_run m S T j))) (by omega) (by omega) hw1 ?_
          · rw [es_swv _ h, if_pos rfl]; exact ht4 ht'
          · intro q hq hqk c hc
            rw [hrun]
            exact es_dv hm h hI ht' hq hqk hc
          · intro c hc
            rw [hrun]
            show es_cl _ _ _ _ _ (8 * (es_run m S T j).2.1 + c) = _
            rw [es_clv _ hc, if_neg (by omega)]
          · intro q hq c hc
            exact es_bW hm hI1 hq hc
          · intro w2 Y2 hw2 hR2
            have hkk : (es_run m S T (j + 1)).2.1 = (es_run m S T j).2.1 + 1 := by rw [hrun]
            have hoo : (es_run m S T (j + 1)).2.2.1 = (es_run m S T j).2.2.1 := by rw [hrun]
            have hff : (es_run m S T (j + 1)).2.2.2.1 = (es_run m S T j).2.2.2.1 := by rw [hrun]
            rw [← hkk, ← hoo]
            refine ih (j + 1) n x3 w2 _ Y2 (by omega) (by omega) hw2 hR2 ?_ (by rw [hoo, hff]; exact hx) (by omega)
            intro i hi
            by_cases hij : i = j
            · subst hij; exact ⟨fun _ => pk_us, fun z => absurd hP z⟩
            · rw [pk_un hij, pk_un hij]; exact hs i (by omega)
          · intro r hr
            rw [if_neg (by omega)]
            by_cases hrk : r = (es_run m S T j).2.1
            · have := hR _ ht'
              obtain ⟨⟨α, β, hα, hβ, hh⟩, hbd⟩ := this
              refine ⟨⟨α, β, hα, hβ, fun c hc => ?_⟩, fun c hc => by rw [es_swv _ hc, if_pos hrk]; exact hbd c hc⟩
              have e := hh c hc
              unfold ya_M at e ⊢
              rw [es_swv _ hc, es_swv _ hc, if_pos hrk, if_pos hrk]; exact e
            · by_cases hrt : r = es_t m j (es_run m S T j)
              · have := hR (es_run m S T j).2.1 (by omega)
                obtain ⟨⟨α, β, hα, hβ, hh⟩, hbd⟩ := this
                refine ⟨⟨α, β, hα, hβ, fun c hc => ?_⟩, fun c hc => by rw [es_swv _ hc, if_neg hrk, if_pos hrt]; exact hbd c hc⟩
                have e := hh c hc
                unfold ya_M at e ⊢
                rw [es_swv _ hc, es_swv _ hc, if_neg hrk, if_neg hrk, if_pos hrt, if_pos hrt]; exact e
              · exact ya_rc (hR r hr) (fun c hc => by rw [es_swv _ hc, if_neg hrk, if_neg hrt]) (fun c hc => by rw [es_swv _ hc, if_neg hrk, if_neg hrt])
        · have ht' : ¬ es_t m j (es_run m S T j) < m := ht
          rw [es_c hb ht'] at hrun
          refine br_f (by decide) (nm_r (nI_1 _) (nm_r (nI_1 j) ?_))
          have := ih (j + 1) n (nI j) w (upd s j (-1)) Y (by omega) (by omega) hw (by rw [hrun]; exact hR) (hs1 (fun z => ht' z.2)) (by rw [hrun]; exact fun _ => rfl) (by rw [hrun]; exact Nat.succ_le_succ ho)
          rw [hrun] at this
          exact this
      · have hk4' : (es_run m S T j).2.1 = 4 := by omega
        have hm4 : m = 4 := by omega
        subst hm4
        have ht' : ¬ es_t 4 j (es_run 4 S T j) < 4 := by have := (es_tm (j := j) hk).1; omega
        rw [hk4']
        rw [wY_pick_2]
        refine pk_le 4 4 (fun _ => ?_) (fun h => by omega)
        rw [es_c hb ht'] at hrun
        refine br_f (by decide) (nm_r (nI_1 _) (nm_r (nI_1 j) ?_))
        have := ih (j + 1) n (nI j) w (upd s j (-1)) Y (by omega) (by omega) hw (by rw [hrun]; exact hR) (hs1 (fun z => ht' z.2)) (by rw [hrun]; exact fun _ => rfl) (by rw [hrun]; exact Nat.succ_le_succ ho)
        rw [hrun] at this
        dsimp only at this
        rw [hk4'] at this
        exact this
    · rw [es_a hb] at hrun
      refine yw_i0 _ (by omega) (by omega) hb (br_t rfl (nm_r (nI_1 j) ?_))
      have := ih (j + 1) n x3 w (upd s j (-1)) Y (by omega) (by omega) hw (by rw [hrun]; exact hR) (hs1 (fun z => hb z.1)) (by rw [hrun]; exact hx) (by rw [hrun]; omega)
      rw [hrun] at this
      exact this
theorem yl_9 (post : Int32 → SY → Prop) (J : Int32 → (Nat → Int32) → (Nat → Int32) → (Nat → Int32) → (Nat → Int64) → (Nat → Int32) → (Nat → Int64) → (Nat → Int32) → (Nat → Int32) → (Nat → Int32) → Prop) (fm : Int32) (S r : Nat) (T : Nat → Int) (hS : S < 256) (hr : r < 4) (hT : ∀ i, (T i).natAbs ≤ 3) (hA : ∀ i, i < 32 → tA i = zz_i (T i))
    (hJ : ∀ w, (∀ q, q < r + 1 → ∀ c, c < 8 → w (8 * q + c) = zz_l (ya_M S T q c)) → J (nI (r + 1)) tA bA oA w sI vA uA nA xA) :
    ∀ (e i n : Nat) (w : Nat → Int64), i + e = 8 → e < n → (∀ q, q < 4 → ∀ c, c < 8 → (q < r ∨ (q = r ∧ c < i)) → w (8 * q + c) = zz_l (ya_M S T q c)) → wY_solve_9 post J (nI S) (nI r) fm fr fc n (nI i) tA bA oA w sI vA uA nA xA := by
  intro e
  induction e with
  | zero =>
    intro i n w hi hn hw
    obtain ⟨n, rfl⟩ : ∃ k, n = k + 1 := ⟨n - 1, by omega⟩
    rw [wY_solve_9]
    exact pk_le 8 i (fun _ => nm_r (nI_1 r) (hJ w (fun q hq c hc => hw q (by omega) c hc (by omega)))) (fun h => by omega)
  | succ e ih =>
    intro i n w hi hn hw
    obtain ⟨n, rfl⟩ : ∃ k, n = k + 1 := ⟨n - 1, by omega⟩
    rw [wY_solve_9]
    refine pk_le 8 i (fun h => by omega) (fun h => ?_)
    have c1 : (8 * nI r + nI i).toNatClampNeg = 8 * r + i := by rw [zz_y, nI_clamp (by omega)]
    have v1 : vp_in (8 * nI r + nI i) 32 := by rw [zz_y]; exact vp_in_nI (by omega) (by decide)
    have hn2 : ∀ q, q < 4 → ∀ c, c < 8 → (q < r ∨ (q = r ∧ c < i + 1)) → vp_updL w (8 * r + i) (zz_l (ya_M S T r i)) (8 * q + c) = zz_l (ya_M S T q c) := by
      intro q hq c hc hqc
      by_cases hx : q = r ∧ c = i
      · obtain ⟨rfl, rfl⟩ := hx; exact pk_uLs
      · rw [pk_uLn (by omega)]; exact hw q hq c hc (by omega)
    by_cases hb : S.testBit i = true
    · refine yw_i1 _ (by omega) (by omega) hb (br_f (by decide) ⟨v1, v1, nm_r (e' := vp_updL w (8 * r + i) (zz_l (ya_M S T r i))) ?_ (nm_r (nI_1 i) (ih (i + 1) n _ (by omega) (by omega) hn2))⟩)
      have := hT (8 * r + i)
      rw [c1, hA _ (by omega), zz_il (by omega)]
      unfold ya_M; rw [if_pos hb]
    · refine yw_i0 _ (by omega) (by omega) hb (br_t rfl ⟨v1, nm_r (e' := vp_updL w (8 * r + i) (zz_l (ya_M S T r i))) ?_ (nm_r (nI_1 i) (ih (i + 1) n _ (by omega) (by omega) hn2))⟩)
      rw [c1]
      unfold ya_M; rw [if_neg hb]; rfl
theorem yl_solve (post : Int32 → SY → Prop) (w : Nat → Int64) (m S : Nat) (T : Nat → Int) (hm : m ≤ 4) (hS : S < 256) (hT : ∀ i, (T i).natAbs ≤ 3) (hA : ∀ i, i < 32 → tA i = zz_i (T i))
    (h1 : (es_run m S T 8).2.2.1 = 1 → ∀ (w : Nat → Int64) (s : Nat → Int32) (Y : Nat → Int), ya_E w Y → (∀ q, q < m → ya_R S (es_run m S T 8).1 Y q) → (∀ j, j < 8 → (es_P m S T j → s j = nI (es_run m S T j).2.1) ∧ (¬ es_P m S T j → s j = -1)) → post (nI (es_run m S T 8).2.2.2.1) (nI m, fr, fc, tA, bA, oA, w, s, vA, uA, nA, xA))
    (h0 : (es_run m S T 8).2.2.1 ≠ 1 → ∀ (w : Nat → Int64) (s : Nat → Int32), post (-1) (nI m, fr, fc, tA, bA, oA, w, s, vA, uA, nA, xA)) :
    wpY_solve post (nI m, fr, fc, tA, bA, oA, w, sI, vA, uA, nA, xA) (nI S) := by
  have H : ∀ (e i n : Nat) (w : Nat → Int64), i + e = 4 → e < n → (∀ q, q < i → ∀ c, c < 8 → w (8 * q + c) = zz_l (ya_M S T q c)) → wY_solve_2 post (nI S) (nI m) fr fc n (nI i) tA bA oA w sI vA uA nA xA := by
    intro e
    induction e with
    | zero =>
      intro i n w hi hn hw
      obtain ⟨n, rfl⟩ : ∃ k, n = k + 1 := ⟨n - 1, by omega⟩
      rw [wY_solve_2]
      refine pk_le 4 i (fun _ => ⟨9, ?_⟩) (fun h => by omega)
      refine yl_73 fr fc tA bA oA vA uA nA xA post m S T hm hS hT h1 h0 8 0 9 (-1) w sI (fun i => if S.testBit (i % 8) = true then T i else 0) rfl (by decide) ?_ ?_ (fun i hi => absurd hi (Nat.not_lt_zero _)) (fun h => absurd h (Nat.not_lt_zero _)) (Nat.le_refl _)
      · intro q hq c hc
        rw [hw q (by omega) c hc]
        show _ = zz_l (if S.testBit ((8 * q + c) % 8) = true then _ else _)
        rw [show (8 * q + c) % 8 = c by omega]; rfl
      · intro q hq
        refine ⟨⟨1, 1, by decide, by decide, fun c hc => ?_⟩, fun c hc => ?_⟩
        · show 1 * ya_M S T q c = 1 * (if S.testBit ((8 * q + c) % 8) = true then _ else _)
          rw [show (8 * q + c) % 8 = c by omega]; rfl
        · show (if S.testBit ((8 * q + c) % 8) = true then T (8 * q + c) else 0).natAbs ≤ 1944
          have := hT (8 * q + c)
          split
          · omega
          · decide
    | succ e ih =>
      intro i n w hi hn hw
      obtain ⟨n, rfl⟩ : ∃ k, n = k + 1 := ⟨n - 1, by omega⟩
      rw [wY_solve_2]
      refine pk_le 4 i (fun h => by omega) (fun h => ⟨9, ?_⟩)
      exact yl_9 fr fc tA bA oA sI vA uA nA xA post _ (nI m) S i T hS h hT hA (fun w' hw' => ih (i + 1) n w' (by omega) (by omega) hw') 8 0 9 w rfl (by decide) (fun q hq c hc hqc => hw q (by omega) c hc)
  exact ⟨5, H 4 0 5 w rfl (by decide) (fun q hq => absurd hq (Nat.not_lt_zero _))⟩
end
end
section
/-! the reference's direction: a primitive multiple of the component's candidate -/
noncomputable def yd_V (m S : Nat) (T Y : Nat → Int) (A : Int) (j : Nat) : Int :=
  @ite _ (es_P m S T j) (Classical.propDecidable _) (-(Y (8 * (es_run m S T j).2.1 + (es_run m S T 8).2.2.2.1)) * A.tdiv (Y (8 * (es_run m S T j).2.1 + j)))
    (if j = (es_run m S T 8).2.2.2.1 then A else 0)
theorem yd_P {m S : Nat} {T Y : Nat → Int} {A : Int} {j : Nat} (h : es_P m S T j) : yd_V m S T Y A j = -(Y (8 * (es_run m S T j).2.1 + (es_run m S T 8).2.2.2.1)) * A.tdiv (Y (8 * (es_run m S T j).2.1 + j)) := if_pos h
theorem yd_N {m S : Nat} {T Y : Nat → Int} {A : Int} {j : Nat} (h : ¬ es_P m S T j) : yd_V m S T Y A j = if j = (es_run m S T 8).2.2.2.1 then A else 0 := if_neg h
theorem yd_nz {m S : Nat} {T Y : Nat → Int} (hm : m ≤ 4) (hT : ∀ i, (T i).natAbs ≤ 3) (hR : ∀ q, q < m → ya_R S (es_run m S T 8).1 Y q) {j : Nat} (hj : j < 8) (h : es_P m S T j) : (es_run m S T 8).1 (8 * (es_run m S T j).2.1 + j) = (es_run m S T 8).2.2.2.2.1 ∧ Y (8 * (es_run m S T j).2.1 + j) ≠ 0 := by
  have hI := es_Ir (S := S) hm hT 8 (Nat.le_refl _)
  have hb := es_bd hm hI
  have hk := es_kl h hj
  have h1 := es_dg hm (Nat.le_refl _) hI hk
  rw [es_pf h 8 hj] at h1
  refine ⟨h1, fun z => hb.2.1 ?_⟩
  rw [← h1]
  exact (ya_z (hR _ (by omega)) hj h.1).mp z
theorem yd_pr {m S : Nat} {T Y : Nat → Int} {A : Int} (hm : m ≤ 4) (hT : ∀ i, (T i).natAbs ≤ 3) (ho : (es_run m S T 8).2.2.1 = 1) (hR : ∀ q, q < m → ya_R S (es_run m S T 8).1 Y q) (hA : ∀ i, i < 8 → es_P m S T i → Y (8 * (es_run m S T i).2.1 + i) ∣ A) {j : Nat} (hj : j < 8) : (es_run m S T 8).2.2.2.2.1 * yd_V m S T Y A j = A * es_v m S T j := by
  have hI := es_Ir (S := S) hm hT 8 (Nat.le_refl _)
  have hb := es_bd hm hI
  by_cases h : es_P m S T j
  · rw [yd_P h, es_vP h]
    have hk := es_kl h hj
    obtain ⟨n1, n2⟩ := yd_nz hm hT hR hj h
    obtain ⟨a, ha⟩ := hA j hj h
    have hf := es_of (m := m) (S := S) (T := T) 8 (by omega)
    rw [ha, Int.mul_tdiv_cancel_left _ n2]
    obtain ⟨⟨α, β, hα, hβ, hh⟩, _⟩ := hR (es_run m S T j).2.1 (by omega)
    have e1 := hh j hj
    have e2 := hh _ hf.1
    unfold ya_M at e1 e2
    rw [if_pos h.1, n1] at e1
    rw [if_pos hf.2.1] at e2
    have e3 : (es_run m S T 8).2.2.2.2.1 * Y (8 * (es_run m S T j).2.1 + (es_run m S T 8).2.2.2.1) = Y (8 * (es_run m S T j).2.1 + j) * (es_run m S T 8).1 (8 * (es_run m S T j).2.1 + (es_run m S T 8).2.2.2.1) := by
      have hab : α * β ≠ 0 := Int.mul_ne_zero hα hβ
      refine Int.eq_of_mul_eq_mul_left hab ?_
      generalize (es_run m S T 8).2.2.2.2.1 = D at *
      generalize Y (8 * (es_run m S T j).2.1 + j) = y at *
      generalize Y (8 * (es_run m S T j).2.1 + (es_run m S T 8).2.2.2.1) = z at *
      generalize (es_run m S T 8).1 (8 * (es_run m S T j).2.1 + (es_run m S T 8).2.2.2.1) = x at *
      have f1 : α * β * (D * z) = (α * D) * (β * z) := by grind
      have f2 : α * β * (y * x) = (β * y) * (α * x) := by grind
      rw [f1, f2, e1, e2]
    generalize (es_run m S T 8).2.2.2.2.1 = D at *
    generalize Y (8 * (es_run m S T j).2.1 + j) = y at *
    generalize Y (8 * (es_run m S T j).2.1 + (es_run m S T 8).2.2.2.1) = z at *
    generalize (es_run m S T 8).1 (8 * (es_run m S T j).2.1 + (es_run m S T 8).2.2.2.1) = x at *
    have f1 : D * (-z * a) = -(D * z) * a := by grind
    rw [f1, e3]; grind
  · rw [yd_N h, es_vN h]
    split
    · exact Int.mul_comm _ _
    · rw [Int.mul_zero, Int.mul_zero]
theorem yd_b {m S : Nat} {T Y : Nat → Int} {A : Int} (hm : m ≤ 4) (hT : ∀ i, (T i).natAbs ≤ 3) (ho : (es_run m S T 8).2.2.1 = 1) (hR : ∀ q, q < m → ya_R S (es_run m S T 8).1 Y q) (hAb : A.natAbs ≤ 14281868906496) (hA : ∀ i, i < 8 → es_P m S T i → Y (8 * (es_run m S T i).2.1 + i) ∣ A) {j : Nat} (hj : j < 8) : (yd_V m S T Y A j).natAbs ≤ 36028797018963968 := by
  have hI := es_Ir (S := S) hm hT 8 (Nat.le_refl _)
  have hb := es_bd hm hI
  have hf := es_of (m := m) (S := S) (T := T) 8 (by omega)
  by_cases h : es_P m S T j
  · have hk := es_kl h hj
    obtain ⟨n1, n2⟩ := yd_nz hm hT hR hj h
    obtain ⟨a, ha⟩ := hA j hj h
    rw [yd_P h, ha, Int.mul_tdiv_cancel_left _ n2]
    have h1 : (-(Y (8 * (es_run m S T j).2.1 + (es_run m S T 8).2.2.2.1))).natAbs ≤ 1944 := by rw [Int.natAbs_neg]; exact (hR _ (by omega)).2 _ hf.1
    have h2 : a.natAbs ≤ 14281868906496 := by
      refine Nat.le_trans ?_ hAb
      rw [ha, Int.natAbs_mul]
      exact Nat.le_mul_of_pos_left _ (by omega)
    exact Nat.le_trans (zz_mb h1 h2) (by decide)
  · rw [yd_N h]
    split
    · omega
    · decide
section
variable (fr fc : Int32) (tA bA oA : Nat → Int32) (w : Nat → Int64) (sI : Nat → Int32) (uA nA xA : Nat → Int32)
theorem yl_175 (post : SY → Prop) (fm : Int32) (V : Nat → Int) (g : Nat) (hg : 1 ≤ g) (hgb : g ≤ 36028797018963968) (hV : ∀ j, j < 8 → (V j).natAbs ≤ 36028797018963968)
    (hp : ∀ v : Nat → Int64, (∀ j, j < 8 → v j = zz_l ((V j).tdiv g)) → post (fm, fr, fc, tA, bA, oA, w, sI, v, uA, nA, xA)) :
    ∀ (e i n : Nat) (v : Nat → Int64), i + e = 8 → e < n → (∀ j, j < 8 → v j = if j < i then zz_l ((V j).tdiv g) else zz_l (V j)) → wY_direction_175 post (zz_l g) fm fr fc n (nI i) tA bA oA w sI v uA nA xA := by
  intro e
  induction e with
  | zero =>
    intro i n v hi hn hv
    obtain ⟨n, rfl⟩ : ∃ k, n = k + 1 := ⟨n - 1, by omega⟩
    rw [wY_direction_175]
    exact pk_le 8 i (fun _ => hp v (fun j hj => by rw [hv j hj, if_pos (by omega)])) (fun h => by omega)
  | succ e ih =>
    intro i n v hi hn hv
    obtain ⟨n, rfl⟩ : ∃ k, n = k + 1 := ⟨n - 1, by omega⟩
    rw [wY_direction_175]
    refine pk_le 8 i (fun h => by omega) (fun h => ?_)
    by_cases h1 : g ≤ 1
    · have hg1 : g = 1 := by omega
      refine br_t ((zz_lle1 (by omega)).mpr (by omega)) (nm_r (nI_1 i) (ih (i + 1) n v (by omega) (by omega) (fun j hj => ?_)))
      rw [hv j hj, hg1, show ((1 : Nat) : Int) = 1 from rfl, Int.tdiv_one]
      split <;> split <;> rfl
    · have hg0 : ¬ zz_l g = 0 := fun z => by have := (zz_le0 (by omega)).mp z; omega
      have hVi := hV i h
      refine br_f (fun z => by have := (zz_lle1 (by omega)).mp z; omega) ⟨vp_in_nI h (by decide), hg0, vp_in_nI h (by decide), nm_r (e' := vp_updL v i (zz_l ((V i).tdiv g))) ?_ (nm_r (nI_1 i) (ih (i + 1) n _ (by omega) (by omega) (fun j hj => ?_)))⟩
      · rw [nI_clamp (by omega), hv i h, if_neg (by omega), zz_ldiv (by omega) (by omega)]
      · by_cases hji : j = i
        · rw [hji, pk_uLs, if_pos (by omega)]
        · rw [pk_uLn hji, hv j hj]
          by_cases hlt : j < i
          · rw [if_pos hlt, if_pos (by omega)]
          · rw [if_neg hlt, if_neg (by omega)]
theorem yl_151 (post : SY → Prop) (fm : Int32) (J : Int64 → Int32 → (Nat → Int32) → (Nat → Int32) → (Nat → Int32) → (Nat → Int64) → (Nat → Int32) → (Nat → Int64) → (Nat → Int32) → (Nat → Int32) → (Nat → Int32) → Prop) (x2 : Int32) (x3 : Int64) (j : Nat) (hj : j < 8) (g z : Int) (v : Nat → Int64) (hg : g.natAbs ≤ 36028797018963968) (hz : z.natAbs ≤ 36028797018963968) (hv : v j = zz_l z)
    (hJ : J (zz_l (Int.gcd g z)) (nI (j + 1)) tA bA oA w sI v uA nA xA) : wY_direction_151 post J x2 x3 (zz_l g) (nI j) fm fr fc tA bA oA w sI v uA nA xA := by
  refine ⟨vp_in_nI hj (by decide), ?_⟩
  rw [nI_clamp (by omega), hv]
  exact yw_div _ _ hg hz (nm_r (nI_1 j) hJ)
theorem yl_55 (post : SY → Prop) (m S : Nat) (T Y : Nat → Int) (A : Int) (hm : m ≤ 4) (hT : ∀ i, (T i).natAbs ≤ 3) (ho : (es_run m S T 8).2.2.1 = 1) (hw : ya_E w Y) (hR : ∀ q, q < m → ya_R S (es_run m S T 8).1 Y q) (hs : ∀ j, j < 8 → (es_P m S T j → sI j = nI (es_run m S T j).2.1) ∧ (¬ es_P m S T j → sI j = -1)) (hAb : A.natAbs ≤ 14281868906496) (hA0 : A ≠ 0) (hA : ∀ i, i < 8 → es_P m S T i → Y (8 * (es_run m S T i).2.1 + i) ∣ A)
    (hp : ∀ v : Nat → Int64, (∀ j, j < 8 → v j = zz_l ((yd_V m S T Y A j).tdiv (zz_gg (yd_V m S T Y A) 8))) → post (nI m, fr, fc, tA, bA, oA, w, sI, v, uA, nA, xA)) :
    ∀ (e i n : Nat) (v : Nat → Int64), i + e = 8 → e < n → (∀ j, j < i → v j = zz_l (yd_V m S T Y A j)) → wY_direction_55 post (nI (es_run m S T 8).2.2.2.1) (zz_l A) (nI m) fr fc n (zz_l (zz_gg (yd_V m S T Y A) i)) (nI i) tA bA oA w sI v uA nA xA := by
  have hI := es_Ir (S := S) hm hT 8 (Nat.le_refl _)
  have hb := es_bd hm hI
  have hf := es_of (m := m) (S := S) (T := T) 8 (by omega)
  have hVb : ∀ j, j < 8 → (yd_V m S T Y A j).natAbs ≤ 36028797018963968 := fun j hj => yd_b hm hT ho hR hAb hA hj
  have hB : ∀ n, n ≤ 8 → zz_gg (yd_V m S T Y A) n ≤ 36028797018963968 := fun n hn => gg_b n (fun c hc => hVb c (by omega))
  intro e
  induction e with
  | zero =>
    intro i n v hi hn hv
    obtain ⟨n, rfl⟩ : ∃ k, n = k + 1 := ⟨n - 1, by omega⟩
    have hi8 : i = 8 := by omega
    subst hi8
    rw [wY_direction_55]
    refine pk_le 8 8 (fun _ => ⟨9, ?_⟩) (fun h => by omega)
    have hg1 : 1 ≤ zz_gg (yd_V m S T Y A) 8 := by
      rcases Nat.eq_zero_or_pos (zz_gg (yd_V m S T Y A) 8) with h0 | h0
      · have := gg_z h0 hf.1
        rw [yd_N hf.2.2, if_pos rfl] at this
        exact absurd this hA0
      · exact h0
    refine yl_175 fr fc tA bA oA w sI uA nA xA post (nI m) (yd_V m S T Y A) _ hg1 (hB 8 (by omega)) hVb hp 8 0 9 v rfl (by decide) (fun j hj => ?_)
    rw [if_neg (by omega)]; exact hv j hj
  | succ e ih =>
    intro i n v hi hn hv
    obtain ⟨n, rfl⟩ : ∃ k, n = k + 1 := ⟨n - 1, by omega⟩
    rw [wY_direction_55]
    refine pk_le 8 i (fun h => by omega) (fun h => ⟨vp_in_nI h (by decide), nm_r (e' := vp_updL v i 0) (by rw [nI_clamp (by omega)]) ?_⟩)
    have hBi := hB i (by omega)
    have hnext : ∀ v' : Nat → Int64, v' i = zz_l (yd_V m S T Y A i) → (∀ j, j ≠ i → v' j = v j) → wY_direction_151 post (wY_direction_55 post (nI (es_run m S T 8).2.2.2.1) (zz_l A) (nI m) fr fc n) (nI (es_run m S T 8).2.2.2.1) (zz_l A) (zz_l (zz_gg (yd_V m S T Y A) i)) (nI i) (nI m) fr fc tA bA oA w sI v' uA nA xA := by
      intro v' h1 h2
      refine yl_151 fr fc tA bA oA w sI uA nA xA post (nI m) _ _ _ i h _ _ v' (by omega) (hVb i h) h1 (ih (i + 1) n v' (by omega) (by omega) (fun j hj => ?_))
      by_cases hji : j = i
      · rw [hji]; exact h1
      · rw [h2 j hji]; exact hv j (by omega)
    have h84 : ∀ v' : Nat → Int64, (¬ es_P m S T i → v' i = zz_l (yd_V m S T Y A i)) → (∀ j, j ≠ i → v' j = v j) → wY_direction_84 post (wY_direction_55 post (nI (es_run m S T 8).2.2.2.1) (zz_l A) (nI m) fr fc n) (nI (es_run m S T 8).2.2.2.1) (zz_l A) (zz_l (zz_gg (yd_V m S T Y A) i)) (nI i) (nI m) fr fc tA bA oA w sI v' uA nA xA := by
      intro v' h1 h2
      refine ⟨vp_in_nI h (by decide), ?_⟩
      rw [nI_clamp (by omega)]
      by_cases hP : es_P m S T i
      · have hsi := (hs i h).1 hP
        have hk := es_kl hP h
        obtain ⟨n1, n2⟩ := yd_nz hm hT hR h hP
        have b1 := (hR (es_run m S T i).2.1 (by omega)).2 i h
        rw [hsi]
        have c1 : (8 * nI (es_run m S T i).2.1 + nI i).toNatClampNeg = 8 * (es_run m S T i).2.1 + i := by rw [zz_y, nI_clamp (by omega)]
        have v1 : vp_in (8 * nI (es_run m S T i).2.1 + nI i) 32 := by rw [zz_y]; exact vp_in_nI (by omega) (by decide)
        have c2 : (8 * nI (es_run m S T i).2.1 + nI (es_run m S T 8).2.2.2.1).toNatClampNeg = 8 * (es_run m S T i).2.1 + (es_run m S T 8).2.2.2.1 := by rw [zz_y, nI_clamp (by omega)]
        have v2 : vp_in (8 * nI (es_run m S T i).2.1 + nI (es_run m S T 8).2.2.2.1) 32 := by rw [zz_y]; exact vp_in_nI (by omega) (by decide)
        have hd0 : ¬ zz_l (Y (8 * (es_run m S T i).2.1 + i)) = 0 := fun z => n2 ((zz_le0 (by omega)).mp z)
        refine br_f (nI_pos (by omega)) ⟨vp_in_nI h (by decide), v1, nm_r (e' := zz_l (Y (8 * (es_run m S T i).2.1 + i))) (by rw [c1]; exact hw _ (by omega) i h) (br_f hd0 ⟨vp_in_nI h (by decide), v2, hd0, vp_in_nI h (by decide), nm_r (e' := vp_updL v' i (zz_l (yd_V m S T Y A i))) ?_ (hnext _ pk_uLs (fun j hj => by rw [pk_uLn hj]; exact h2 j hj))⟩)⟩
        rw [c2, hw _ (by omega) _ hf.1, zz_lneg, zz_ldiv (by omega) (by omega), zz_lmul, yd_P hP]
      · rw [(hs i h).2 hP]
        exact br_t (by decide) (hnext v' (h1 hP) h2)
    refine pk_eq i (es_run m S T 8).2.2.2.1 (fun hif => ⟨vp_in_nI h (by decide), nm_r (e' := vp_updL (vp_updL v i 0) i (zz_l A)) (by rw [nI_clamp (by omega)]) (h84 _ (fun hP => ?_) (fun j hj => by rw [pk_uLn hj, pk_uLn hj]))⟩) (fun hif => h84 _ (fun hP => ?_) (fun j hj => by rw [pk_uLn hj]))
    · rw [pk_uLs, yd_N hP, if_pos hif]
    · rw [pk_uLs, yd_N hP, if_neg hif]; rfl
theorem yl_dir (post : SY → Prop) (v : Nat → Int64) (x1 : Int32) (m S : Nat) (T Y : Nat → Int) (hm : m ≤ 4) (hT : ∀ i, (T i).natAbs ≤ 3) (ho : (es_run m S T 8).2.2.1 = 1) (hw : ya_E w Y) (hR : ∀ q, q < m → ya_R S (es_run m S T 8).1 Y q) (hs : ∀ j, j < 8 → (es_P m S T j → sI j = nI (es_run m S T j).2.1) ∧ (¬ es_P m S T j → sI j = -1))
    (hp : ∀ (v : Nat → Int64) (V : Nat → Int), (∀ j, j < 8 → v j = zz_l (V j)) → zz_gg V 8 = 1 → (∃ α β : Int, α ≠ 0 ∧ β ≠ 0 ∧ ∀ j, j < 8 → α * es_v m S T j = β * V j) → (∀ j, j < 8 → (V j).natAbs ≤ 1944) → post (nI m, fr, fc, tA, bA, oA, w, sI, v, uA, nA, xA)) :
    wpY_direction post (nI m, fr, fc, tA, bA, oA, w, sI, v, uA, nA, xA) x1 (nI (es_run m S T 8).2.2.2.1) := by
  have hI := es_Ir (S := S) hm hT 8 (Nat.le_refl _)
  have hb := es_bd hm hI
  have hf := es_of (m := m) (S := S) (T := T) 8 (by omega)
  have H : ∀ (e j n : Nat) (A : Int), j + e = 8 → e < n → A ≠ 0 → A.natAbs ≤ 1944 ^ (es_run m S T j).2.1 → (∀ i, i < j → es_P m S T i → Y (8 * (es_run m S T i).2.1 + i) ∣ A) → wY_direction_5 post (nI (es_run m S T 8).2.2.2.1) (nI m) fr fc tA bA oA w sI v uA nA xA n (zz_l A) (nI j) := by
    intro e
    induction e with
    | zero =>
      intro j n A hj hn hA0 hAb hA
      obtain ⟨n, rfl⟩ : ∃ k, n = k + 1 := ⟨n - 1, by omega⟩
      have hj8 : j = 8 := by omega
      subst hj8
      rw [wY_direction_5]
      have hAb' : A.natAbs ≤ 14281868906496 := Nat.le_trans hAb (Nat.le_trans (Nat.pow_le_pow_right (by decide) (show _ ≤ 4 by omega)) (by decide))
      refine pk_le 8 8 (fun _ => ⟨9, ?_⟩) (fun h => by omega)
      refine yl_55 fr fc tA bA oA w sI uA nA xA post m S T Y A hm hT ho hw hR hs hAb' hA0 hA (fun v' hv' => ?_) 8 0 9 v rfl (by decide) (fun j hj => absurd hj (Nat.not_lt_zero _))
      have hg0 : zz_gg (yd_V m S T Y A) 8 ≠ 0 := by
        intro h0
        have := gg_z h0 hf.1
        rw [yd_N hf.2.2, if_pos rfl] at this
        exact hA0 this
      have hmul : ∀ j, j < 8 → yd_V m S T Y A j = (zz_gg (yd_V m S T Y A) 8 : Int) * (yd_V m S T Y A j).tdiv (zz_gg (yd_V m S T Y A) 8) := fun j hj => (Int.mul_tdiv_cancel' (Int.ofNat_dvd_left.mpr (gg_d 8 j hj))).symm
      have hone : zz_gg (fun j => (yd_V m S T Y A j).tdiv (zz_gg (yd_V m S T Y A) 8)) 8 = 1 := by
        have h2 := gg_c (f := yd_V m S T Y A) (g := fun j => (zz_gg (yd_V m S T Y A) 8 : Int) * (yd_V m S T Y A j).tdiv (zz_gg (yd_V m S T Y A) 8)) 8 hmul
        rw [gg_m (zz_gg (yd_V m S T Y A) 8 : Int) (fun j => (yd_V m S T Y A j).tdiv (zz_gg (yd_V m S T Y A) 8)) 8, Int.natAbs_natCast] at h2
        exact Nat.eq_of_mul_eq_mul_left (by omega : 0 < zz_gg (yd_V m S T Y A) 8) (by rw [Nat.mul_one]; exact h2.symm)
      have hg0' : (zz_gg (yd_V m S T Y A) 8 : Int) ≠ 0 := by omega
      have hpr : ∀ j, j < 8 → A * es_v m S T j = ((es_run m S T 8).2.2.2.2.1 * (zz_gg (yd_V m S T Y A) 8 : Int)) * (yd_V m S T Y A j).tdiv (zz_gg (yd_V m S T Y A) 8) := by
        intro j hj
        rw [Int.mul_assoc, ← hmul j hj]
        exact (yd_pr hm hT ho hR hA hj).symm
      refine hp v' (fun j => (yd_V m S T Y A j).tdiv (zz_gg (yd_V m S T Y A) 8)) hv' hone ⟨A, (es_run m S T 8).2.2.2.2.1 * (zz_gg (yd_V m S T Y A) 8 : Int), hA0, Int.mul_ne_zero hb.2.1 hg0', hpr⟩ (fun j hj => ?_)
      exact Nat.le_trans (gg_p hA0 (Int.mul_ne_zero hb.2.1 hg0') hpr hone hj) (es_vb hm hT (by omega) hj)
    | succ e ih =>
      intro j n A hj hn hA0 hAb hA
      obtain ⟨n, rfl⟩ : ∃ k, n = k + 1 := ⟨n - 1, by omega⟩
      rw [wY_direction_5]
      refine pk_le 8 j (fun h => by omega) (fun h => ⟨vp_in_nI h (by decide), ?_⟩)
      rw [nI_clamp (by omega)]
      by_cases hP : es_P m S T j
      · have hk := es_kl hP h
        obtain ⟨n1, n2⟩ := yd_nz hm hT hR h hP
        rw [(hs j h).1 hP]
        have c1 : (8 * nI (es_run m S T j).2.1 + nI j).toNatClampNeg = 8 * (es_run m S T j).2.1 + j := by rw [zz_y, nI_clamp (by omega)]
        have v1 : vp_in (8 * nI (es_run m S T j).2.1 + nI j) 32 := by rw [zz_y]; exact vp_in_nI (by omega) (by decide)
        refine br_f (nI_pos (by omega)) ⟨vp_in_nI h (by decide), v1, nm_r (e' := zz_l (A * Y (8 * (es_run m S T j).2.1 + j))) (by rw [c1, hw _ (by omega) j h, zz_lmul]) (nm_r (nI_1 j) (ih (j + 1) n _ (by omega) (by omega) (Int.mul_ne_zero hA0 n2) ?_ ?_))⟩
        · rw [es_kP hP, Nat.pow_succ]
          exact zz_mb hAb ((hR _ (by omega)).2 j h)
        · intro i hi hPi
          by_cases hij : i = j
          · subst hij; exact Int.dvd_mul_left _ _
          · exact Int.dvd_trans (hA i (by omega) hPi) (Int.dvd_mul_right _ _)
      · rw [(hs j h).2 hP]
        refine br_t (by decide) (nm_r (nI_1 j) (ih (j + 1) n A (by omega) (by omega) hA0 (by rw [es_kN hP]; exact hAb) (fun i hi hPi => ?_)))
        by_cases hij : i = j
        · subst hij; exact absurd hPi hP
        · exact hA i (by omega) hPi
  exact ⟨9, H 8 0 9 1 rfl (by decide) (by decide) (by show (1 : Int).natAbs ≤ 1944 ^ 0; decide) (fun i hi => absurd hi (Nat.not_lt_zero _))⟩
end
end
section
/-! the sign of a flow, and the component's flowSign -/
theorem nx_or (a b : Nat) : nI a ||| nI b = nI (a ||| b) := by
  apply Int32.toBitVec_inj.1
  show BitVec.ofNat 32 a ||| BitVec.ofNat 32 b = BitVec.ofNat 32 (a ||| b)
  apply BitVec.eq_of_getLsbD_eq
  intro i hi
  simp [hi]
theorem zz_sh {j : Nat} (hj : j < 31) : (1 : Int32) <<< (nI j &&& 31) = nI (2 ^ j) := by
  have h := pk_shlN (n := 1) (nI j &&& 31) j (s_l j (by omega)) (by rw [Nat.one_mul]; exact Nat.pow_lt_pow_right (by decide) (by omega))
  rw [Nat.one_mul] at h
  exact h
theorem zz_hib {S j : Nat} (hS : S < 256) (hj : 8 ≤ j) : S.testBit j = false :=
  Nat.testBit_lt_two_pow (Nat.lt_of_lt_of_le hS (Nat.pow_le_pow_right (n := 2) (by decide) hj))
def sg_one (S t : Nat) : Nat := S &&& (t ^^^ 4294967295)
theorem sg_o32 (S t : Nat) : nI S &&& (nI t ^^^ (-1)) = nI (sg_one S t) := by
  rw [show (-1 : Int32) = nI 4294967295 from rfl, nx_xor, nx_and]; rfl
theorem sg_ob {S t j : Nat} (hj : j < 32) : (sg_one S t).testBit j = (S.testBit j && !t.testBit j) := by
  unfold sg_one
  rw [Nat.testBit_and, Nat.testBit_xor, show (4294967295 : Nat) = 2 ^ 32 - 1 from rfl, Nat.testBit_two_pow_sub_one, decide_eq_true hj, Bool.xor_true]
theorem sg_ole {S t : Nat} : sg_one S t ≤ S := Nat.and_le_left
theorem sg_o0 {S t : Nat} (hS : S < 256) : sg_one S t = 0 ↔ ∀ j, j < 8 → S.testBit j = true → t.testBit j = true := by
  constructor
  · intro h j hj hb
    have h1 := sg_ob (S := S) (t := t) (j := j) (by omega)
    rw [h, Nat.zero_testBit, hb] at h1
    cases ht : t.testBit j
    · rw [ht] at h1; exact absurd h1 (by decide)
    · rfl
  · intro h
    apply Nat.eq_of_testBit_eq
    intro j
    rw [Nat.zero_testBit]
    by_cases hj : j < 8
    · rw [sg_ob (by omega)]
      cases hb : S.testBit j
      · rfl
      · rw [h j hj hb]; rfl
    · exact zz_hib (Nat.lt_of_le_of_lt sg_ole hS) (by omega)
def sg_A (S t : Nat) (f : Nat → Int) : Prop := ∀ j, j < 8 → S.testBit j = true → t.testBit j = false → 0 ≤ f j
def sg_B (S t : Nat) (f : Nat → Int) : Prop := ∀ j, j < 8 → S.testBit j = true → t.testBit j = false → f j ≤ 0
def sg_lb (S : Nat) : Nat := if S.testBit 0 then 0 else if S.testBit 1 then 1 else if S.testBit 2 then 2 else if S.testBit 3 then 3 else if S.testBit 4 then 4 else if S.testBit 5 then 5 else if S.testBit 6 then 6 else 7
theorem sg_l1 : ∀ S, S < 256 → 0 < S → (nI S &&& -nI S) = nI (2 ^ sg_lb S) := by decide +kernel
theorem sg_l2 : ∀ S, S < 256 → 0 < S → S.testBit (sg_lb S) = true ∧ sg_lb S < 8 := by decide +kernel
theorem sg_l3 : ∀ S, S < 256 → ∀ i, i < 8 → i < sg_lb S → S.testBit i = false := by decide +kernel
noncomputable def sg_s (S t : Nat) (f : Nat → Int) : Int :=
  @ite _ (sg_A S t f) (Classical.propDecidable _) (@ite _ (sg_B S t f) (Classical.propDecidable _) (if f (sg_lb S) < 0 then -1 else 1) 1) (@ite _ (sg_B S t f) (Classical.propDecidable _) (-1) 0)
theorem sg_1 {S t : Nat} {f : Nat → Int} (a : sg_A S t f) (b : sg_B S t f) : sg_s S t f = if f (sg_lb S) < 0 then -1 else 1 := by
  unfold sg_s; rw [if_pos a, if_pos b]
theorem sg_2 {S t : Nat} {f : Nat → Int} (a : sg_A S t f) (b : ¬ sg_B S t f) : sg_s S t f = 1 := by
  unfold sg_s; rw [if_pos a, if_neg b]
theorem sg_3 {S t : Nat} {f : Nat → Int} (a : ¬ sg_A S t f) (b : sg_B S t f) : sg_s S t f = -1 := by
  unfold sg_s; rw [if_neg a, if_pos b]
theorem sg_4 {S t : Nat} {f : Nat → Int} (a : ¬ sg_A S t f) (b : ¬ sg_B S t f) : sg_s S t f = 0 := by
  unfold sg_s; rw [if_neg a, if_neg b]
theorem sg_r (S t : Nat) (f : Nat → Int) : sg_s S t f = 1 ∨ sg_s S t f = -1 ∨ sg_s S t f = 0 := by
  by_cases a : sg_A S t f <;> by_cases b : sg_B S t f
  · rw [sg_1 a b]; split
    · exact Or.inr (Or.inl rfl)
    · exact Or.inl rfl
  · exact Or.inl (sg_2 a b)
  · exact Or.inr (Or.inl (sg_3 a b))
  · exact Or.inr (Or.inr (sg_4 a b))
theorem sg_AB {S t : Nat} {f : Nat → Int} (hS : S < 256) (hf : ∀ j, j < 8 → S.testBit j = true → f j ≠ 0) : (sg_A S t f ∧ sg_B S t f) ↔ sg_one S t = 0 := by
  rw [sg_o0 hS]
  constructor
  · intro h j hj hb
    cases ht : t.testBit j
    · have h1 := h.1 j hj hb ht
      have h2 := h.2 j hj hb ht
      exact absurd (by omega) (hf j hj hb)
    · rfl
  · intro h
    exact ⟨fun j hj hb ht => (by rw [h j hj hb] at ht; exact absurd ht (by decide)), fun j hj hb ht => (by rw [h j hj hb] at ht; exact absurd ht (by decide))⟩
/-- a positive factor keeps the sign, a negative one turns it -/
theorem sg_pos {S t : Nat} {f g : Nat → Int} (hS : S < 256) (h0 : 0 < S) (h : ∀ j, j < 8 → (0 ≤ g j ↔ 0 ≤ f j) ∧ (g j ≤ 0 ↔ f j ≤ 0)) : sg_s S t g = sg_s S t f := by
  have hA : sg_A S t g ↔ sg_A S t f := ⟨fun a j hj hb ht => (h j hj).1.mp (a j hj hb ht), fun a j hj hb ht => (h j hj).1.mpr (a j hj hb ht)⟩
  have hB : sg_B S t g ↔ sg_B S t f := ⟨fun a j hj hb ht => (h j hj).2.mp (a j hj hb ht), fun a j hj hb ht => (h j hj).2.mpr (a j hj hb ht)⟩
  have hl := (sg_l2 S hS h0).2
  by_cases a : sg_A S t f <;> by_cases b : sg_B S t f
  · rw [sg_1 a b, sg_1 (hA.mpr a) (hB.mpr b)]
    have := (h _ hl).1
    by_cases z : f (sg_lb S) < 0
    · rw [if_pos z, if_pos (by omega)]
    · rw [if_neg z, if_neg (by omega)]
  · rw [sg_2 a b, sg_2 (hA.mpr a) (fun z => b (hB.mp z))]
  · rw [sg_3 a b, sg_3 (fun z => a (hA.mp z)) (hB.mpr b)]
  · rw [sg_4 a b, sg_4 (fun z => a (hA.mp z)) (fun z => b (hB.mp z))]
theorem sg_neg {S t : Nat} {f g : Nat → Int} (hS : S < 256) (h0 : 0 < S) (hf : ∀ j, j < 8 → S.testBit j = true → f j ≠ 0) (h : ∀ j, j < 8 → (0 ≤ g j ↔ f j ≤ 0) ∧ (g j ≤ 0 ↔ 0 ≤ f j)) : sg_s S t g = -sg_s S t f := by
  have hA : sg_A S t g ↔ sg_B S t f := ⟨fun a j hj hb ht => (h j hj).1.mp (a j hj hb ht), fun a j hj hb ht => (h j hj).1.mpr (a j hj hb ht)⟩
  have hB : sg_B S t g ↔ sg_A S t f := ⟨fun a j hj hb ht => (h j hj).2.mp (a j hj hb ht), fun a j hj hb ht => (h j hj).2.mpr (a j hj hb ht)⟩
  have hl := sg_l2 S hS h0
  by_cases a : sg_A S t f <;> by_cases b : sg_B S t f
  · rw [sg_1 a b, sg_1 (hA.mpr b) (hB.mpr a)]
    have h1 := h _ hl.2
    have h2 := hf _ hl.2 hl.1
    by_cases z : f (sg_lb S) < 0
    · rw [if_pos z, if_neg (by omega)]; rfl
    · rw [if_neg z, if_pos (by omega)]
  · rw [sg_2 a b, sg_3 (fun z => b (hA.mp z)) (hB.mpr a)]
  · rw [sg_3 a b, sg_2 (hA.mpr b) (fun z => a (hB.mp z))]; rfl
  · rw [sg_4 a b, sg_4 (fun z => b (hA.mp z)) (fun z => a (hB.mp z))]; rfl
def sg_N (f : Nat → Int) : Nat → Nat
  | 0 => 0
  | j + 1 => if f j < 0 then sg_N f j ||| 2 ^ j else sg_N f j
theorem sg_Nb {f : Nat → Int} {i : Nat} : ∀ n, (sg_N f n).testBit i = decide (i < n ∧ f i < 0) := by
  intro n
  induction n with
  | zero => rw [show sg_N f 0 = 0 from rfl, Nat.zero_testBit]; exact (decide_eq_false (by omega)).symm
  | succ n ih =>
    by_cases h : f n < 0
    · rw [show sg_N f (n + 1) = sg_N f n ||| 2 ^ n from if_pos h, Nat.testBit_or, ih, Nat.testBit_two_pow]
      by_cases hi : i = n
      · subst hi
        rw [decide_eq_true (show i < i + 1 ∧ f i < 0 from ⟨by omega, h⟩), decide_eq_true (show i = i from rfl), Bool.or_true]
      · rw [decide_eq_false (show ¬ n = i by omega), Bool.or_false]
        by_cases h2 : i < n ∧ f i < 0
        · rw [decide_eq_true h2, decide_eq_true ⟨by omega, h2.2⟩]
        · rw [decide_eq_false h2, decide_eq_false (fun z => h2 ⟨by omega, z.2⟩)]
    · rw [show sg_N f (n + 1) = sg_N f n from if_neg h, ih]
      by_cases h2 : i < n ∧ f i < 0
      · rw [decide_eq_true h2, decide_eq_true ⟨by omega, h2.2⟩]
      · rw [decide_eq_false h2, decide_eq_false (fun z => h2 ⟨by
          by_cases hi : i = n
          · subst hi; exact absurd z.2 h
          · omega, z.2⟩)]
theorem sg_fin {post : Int32 → Prop} {S t r D : Nat} {f : Nat → Int} (hS : S < 256) (h0 : 0 < S) (hr : r ≤ 8) (hSr : ∀ j, r ≤ j → ¬ S.testBit j = true) (hf : ∀ j, j < 8 → S.testBit j = true → f j ≠ 0) (hD : (sg_one S t = 0 ∧ D = 2 ^ sg_lb S) ∨ (sg_one S t ≠ 0 ∧ D = sg_one S t)) (hp : post (zz_i (sg_s S t f))) :
    (nI (sg_N f r &&& D) = 0 → post 1) ∧ (¬ nI (sg_N f r &&& D) = 0 → ((nI (sg_N f r &&& D) = nI D → post (-1)) ∧ (¬ nI (sg_N f r &&& D) = nI D → post 0))) := by
  have hDb : D < 256 := by
    rcases hD with ⟨_, h⟩ | ⟨_, h⟩
    · rw [h]; exact Nat.lt_of_lt_of_le (Nat.pow_lt_pow_right (by decide) (sg_l2 S hS h0).2) (by decide)
    · rw [h]; exact Nat.lt_of_le_of_lt sg_ole hS
  have hNb : sg_N f r &&& D < 256 := Nat.lt_of_le_of_lt Nat.and_le_right hDb
  have e0 : nI (sg_N f r &&& D) = 0 ↔ sg_N f r &&& D = 0 := nI_eq (b := 0) (by omega) (by decide)
  have eD : nI (sg_N f r &&& D) = nI D ↔ sg_N f r &&& D = D := nI_eq (by omega) (by omega)
  have hlt : ∀ j, S.testBit j = true → j < r := fun j hb => Classical.byContradiction (fun z => hSr j (by omega) hb)
  rcases hD with ⟨ho, hD⟩ | ⟨ho, hD⟩
  · have hab := (sg_AB (t := t) hS hf).mpr ho
    rw [sg_1 hab.1 hab.2] at hp
    have hl := sg_l2 S hS h0
    have hlr := hlt _ hl.1
    by_cases hz : f (sg_lb S) < 0
    · rw [if_pos hz] at hp
      have hN : sg_N f r &&& D = D := by
        rw [hD]
        apply Nat.eq_of_testBit_eq
        intro i
        rw [Nat.testBit_and, sg_Nb, Nat.testBit_two_pow]
        by_cases hi : sg_lb S = i
        · rw [decide_eq_true hi, ← hi, decide_eq_true ⟨hlr, hz⟩]; rfl
        · rw [decide_eq_false hi, Bool.and_false]
      have hD0 : D ≠ 0 := by rw [hD]; exact Nat.ne_of_gt (Nat.two_pow_pos _)
      refine br_f (fun z => hD0 ?_) (br_t (eD.mpr hN) hp)
      rw [← hN]; exact e0.mp z
    · rw [if_neg hz] at hp
      refine br_t (e0.mpr ?_) hp
      rw [hD]
      apply Nat.eq_of_testBit_eq
      intro i
      rw [Nat.testBit_and, sg_Nb, Nat.testBit_two_pow, Nat.zero_testBit]
      by_cases hi : sg_lb S = i
      · rw [← hi, decide_eq_false (fun z => hz z.2)]; rfl
      · rw [decide_eq_false hi, Bool.and_false]
  · have hab : ¬ (sg_A S t f ∧ sg_B S t f) := fun z => ho ((sg_AB hS hf).mp z)
    have hA : sg_N f r &&& D = 0 ↔ sg_A S t f := by
      rw [hD]
      constructor
      · intro z j hj hb ht
        have h1 : (sg_N f r &&& sg_one S t).testBit j = false := by rw [z, Nat.zero_testBit]
        rw [Nat.testBit_and, sg_Nb, sg_ob (by omega), hb, ht] at h1
        have hjr := hlt j hb
        by_cases hfj : f j < 0
        · rw [decide_eq_true ⟨hjr, hfj⟩] at h1; exact absurd h1 (by decide)
        · omega
      · intro a
        apply Nat.eq_of_testBit_eq
        intro j
        rw [Nat.testBit_and, sg_Nb, Nat.zero_testBit]
        by_cases hj : j < 8
        · rw [sg_ob (by omega)]
          cases hb : S.testBit j
          · rw [Bool.false_and, Bool.and_false]
          · cases ht : t.testBit j
            · rw [decide_eq_false (fun z => by have := a j hj hb ht; omega)]; rfl
            · rw [Bool.not_true, Bool.and_false, Bool.and_false]
        · rw [zz_hib (Nat.lt_of_le_of_lt sg_ole hS) (by omega), Bool.and_false]
    have hB : sg_N f r &&& D = D ↔ sg_B S t f := by
      rw [hD]
      constructor
      · intro z j hj hb ht
        have h1 : (sg_N f r &&& sg_one S t).testBit j = (sg_one S t).testBit j := by rw [z]
        rw [Nat.testBit_and, sg_Nb, sg_ob (by omega), hb, ht] at h1
        by_cases hfj : j < r ∧ f j < 0
        · omega
        · rw [decide_eq_false hfj] at h1; exact absurd h1 (by decide)
      · intro b
        apply Nat.eq_of_testBit_eq
        intro j
        rw [Nat.testBit_and, sg_Nb]
        by_cases hj : j < 8
        · rw [sg_ob (by omega)]
          cases hb : S.testBit j
          · rw [Bool.false_and, Bool.and_false]
          · cases ht : t.testBit j
            · rw [decide_eq_true ⟨hlt j hb, by have := b j hj hb ht; have := hf j hj hb; omega⟩]; rfl
            · rw [Bool.not_true, Bool.and_false, Bool.and_false]
        · rw [zz_hib (Nat.lt_of_le_of_lt sg_ole hS) (by omega), Bool.and_false]
    by_cases a : sg_A S t f
    · rw [sg_2 a (fun b => hab ⟨a, b⟩)] at hp
      exact br_t (e0.mpr (hA.mpr a)) hp
    · refine br_f (fun z => a (hA.mp (e0.mp z))) ?_
      by_cases b : sg_B S t f
      · rw [sg_3 a b] at hp
        exact br_t (eD.mpr (hB.mpr b)) hp
      · rw [sg_4 a b] at hp
        exact br_f (fun z => b (hB.mp (eD.mp z))) hp
theorem xl_sign (post : Int32 → Prop) (fm fo fc : Int32) (tA sA xA w pA cA : Nat → Int32) (r t S : Nat) (f : Nat → Int) (hr : r ≤ 8) (hS : S < 256) (h0 : 0 < S) (hSr : ∀ j, r ≤ j → ¬ S.testBit j = true) (hc : ∀ j, j < 8 → cA j = zz_i (f j)) (hfb : ∀ j, j < 8 → (f j).natAbs ≤ 1944) (hf : ∀ j, j < 8 → S.testBit j = true → f j ≠ 0) (hp : post (zz_i (sg_s S t f))) :
    wpX_flowSign post (fm, nI r, nI t, fo, fc, tA, sA, xA, w, pA, cA) (nI S) := by
  have H : ∀ D, ((sg_one S t = 0 ∧ D = 2 ^ sg_lb S) ∨ (sg_one S t ≠ 0 ∧ D = sg_one S t)) → ∀ (e j n : Nat), j + e = r → e < n → wX_flowSign_28 post (nI D) fm (nI r) (nI t) fo fc tA sA xA w pA cA n (nI (sg_N f j)) (nI j) := by
    intro D hD e
    induction e with
    | zero =>
      intro j n hj hn
      obtain ⟨n, rfl⟩ : ∃ k, n = k + 1 := ⟨n - 1, by omega⟩
      have hjr : j = r := by omega
      subst hjr
      rw [wX_flowSign_28]
      exact pk_le j j (fun _ => nm_r (nx_and _ _) (sg_fin hS h0 hr hSr hf hD hp)) (fun h => by omega)
    | succ e ih =>
      intro j n hj hn
      obtain ⟨n, rfl⟩ : ∃ k, n = k + 1 := ⟨n - 1, by omega⟩
      rw [wX_flowSign_28]
      refine pk_le r j (fun h => by omega) (fun h => ⟨vp_in_nI (by omega) (by decide), ?_⟩)
      rw [nI_clamp (by omega), hc j (by omega)]
      have hb := hfb j (by omega)
      have := ih (j + 1) n (by omega) (by omega)
      by_cases hz : f j < 0
      · rw [show sg_N f (j + 1) = sg_N f j ||| 2 ^ j from if_pos hz] at this
        exact br_f (fun z => by have := (zz_i0le (by omega)).mp z; omega) (nm_r (e' := nI (sg_N f j ||| 2 ^ j)) (by rw [zz_sh (by omega), nx_or]) (nm_r (nI_1 j) this))
      · rw [show sg_N f (j + 1) = sg_N f j from if_neg hz] at this
        exact br_t ((zz_i0le (by omega)).mpr (by omega)) (nm_r (nI_1 j) this)
  refine nm_r (sg_o32 S t) ?_
  have hole := @sg_ole S t
  by_cases ho : sg_one S t = 0
  · rw [ho]
    exact br_t rfl (nm_r (sg_l1 S hS h0) ⟨r + 1, H _ (Or.inl ⟨ho, rfl⟩) r 0 (r + 1) (by omega) (by omega)⟩)
  · exact br_f (nI_ne0 (by omega) (by omega)) ⟨r + 1, H _ (Or.inr ⟨ho, rfl⟩) r 0 (r + 1) (by omega) (by omega)⟩
end
section
/-! the list of modes: what it is, and that the component makes it -/
noncomputable def md_x (m S : Nat) (T : Nat → Int) (t j : Nat) : Int := sg_s S t (es_v m S T) * (es_v m S T j).tdiv (zz_gg (es_v m S T) 8)
def md_g (m r : Nat) (T : Nat → Int) (t o S : Nat) : Prop := 0 < S ∧ S < 2 ^ r ∧ S &&& o = 0 ∧ es_ok m S T ∧ sg_s S t (es_v m S T) ≠ 0
noncomputable def md_c (m r : Nat) (T : Nat → Int) (t o : Nat) : Nat → Nat
  | 0 => 0
  | n + 1 => md_c m r T t o n + @ite _ (md_g m r T t o n) (Classical.propDecidable _) 1 0
section
variable {m r : Nat} {T : Nat → Int} {t o : Nat}
theorem md_cP {n : Nat} (h : md_g m r T t o n) : md_c m r T t o (n + 1) = md_c m r T t o n + 1 := by
  show _ + _ = _; rw [if_pos h]
theorem md_cN {n : Nat} (h : ¬ md_g m r T t o n) : md_c m r T t o (n + 1) = md_c m r T t o n := by
  show _ + _ = _; rw [if_neg h]; rfl
theorem md_cm {a : Nat} : ∀ n, a ≤ n → md_c m r T t o a ≤ md_c m r T t o n := by
  intro n
  induction n with
  | zero => intro h; rw [show a = 0 by omega]; exact Nat.le_refl _
  | succ n ih =>
    intro h
    by_cases ha : a = n + 1
    · rw [ha]; exact Nat.le_refl _
    · have := ih (by omega)
      by_cases hg : md_g m r T t o n
      · rw [md_cP hg]; omega
      · rw [md_cN hg]; omega
theorem md_cl {a n : Nat} (h : md_g m r T t o a) (ha : a < n) : md_c m r T t o a < md_c m r T t o n := by
  have := md_cm (m := m) (r := r) (T := T) (t := t) (o := o) (a := a + 1) n (by omega)
  rw [md_cP h] at this; omega
theorem md_cb : ∀ n, 0 < n → md_c m r T t o n < n := by
  intro n
  induction n with
  | zero => intro h; omega
  | succ n ih =>
    intro _
    by_cases hg : md_g m r T t o n
    · rw [md_cP hg]; have := ih hg.1; omega
    · rw [md_cN hg]
      rcases Nat.eq_zero_or_pos n with h | h
      · rw [h]; exact Nat.zero_lt_one
      · have := ih h; omega
theorem md_ce {i : Nat} : ∀ n, i < md_c m r T t o n → ∃ S, S < n ∧ md_g m r T t o S ∧ md_c m r T t o S = i := by
  intro n
  induction n with
  | zero => intro h; exact absurd h (Nat.not_lt_zero _)
  | succ n ih =>
    intro h
    by_cases hg : md_g m r T t o n
    · rw [md_cP hg] at h
      by_cases hi : i = md_c m r T t o n
      · exact ⟨n, by omega, hg, hi.symm⟩
      · obtain ⟨S, h1, h2⟩ := ih (by omega)
        exact ⟨S, by omega, h2⟩
    · rw [md_cN hg] at h
      obtain ⟨S, h1, h2⟩ := ih h
      exact ⟨S, by omega, h2⟩
theorem md_1 : md_c m r T t o 1 = 0 := by rw [md_cN (fun z => absurd z.1 (Nat.lt_irrefl _))]; rfl
theorem md_xb {S : Nat} (hm : m ≤ 4) (hT : ∀ i, (T i).natAbs ≤ 3) (hk : es_ok m S T) {j : Nat} (hj : j < 8) : (md_x m S T t j).natAbs ≤ 1944 := by
  unfold md_x
  have h1 := es_vb hm hT (by have := hk.1; omega : 1 ≤ (es_run m S T 8).2.2.1) hj
  have h2 : ((es_v m S T j).tdiv (zz_gg (es_v m S T) 8)).natAbs ≤ 1944 := by
    rw [Int.natAbs_tdiv]; exact Nat.le_trans (Nat.div_le_self _ _) h1
  rcases sg_r S t (es_v m S T) with h | h | h
  · rw [h, Int.one_mul]; exact h2
  · rw [h, Int.neg_one_mul, Int.natAbs_neg]; exact h2
  · rw [h, Int.zero_mul]; decide
end
def md_L (m r : Nat) (T : Nat → Int) (t o n : Nat) (sA xA : Nat → Int32) : Prop := ∀ S, S < n → md_g m r T t o S → sA (md_c m r T t o S) = nI S ∧ ∀ j, j < 8 → xA (8 * md_c m r T t o S + j) = zz_i (md_x m S T t j)
theorem xl_ad33 (post : SX → Prop) (fm fr ft fo : Int32) (tA sA w pA cA xA : Nat → Int32) (S cnt g : Nat) (sg : Int) (f : Nat → Int) (hcnt : cnt < 256) (hg : g ≠ 0) (hgb : g ≤ 1944) (hc : ∀ j, j < 8 → cA j = zz_i (f j)) (hfb : ∀ j, j < 8 → (f j).natAbs ≤ 1944)
    (hp : ∀ x : Nat → Int32, (∀ i, i < 8 * cnt → x i = xA i) → (∀ j, j < 8 → x (8 * cnt + j) = zz_i (sg * (f j).tdiv g)) → post (fm, fr, ft, fo, nI (cnt + 1), tA, upd sA cnt (nI S), x, w, pA, cA)) :
    ∀ (e i n : Nat) (x : Nat → Int32), i + e = 8 → e < n → (∀ q, q < 8 * cnt → x q = xA q) → (∀ j, j < i → x (8 * cnt + j) = zz_i (sg * (f j).tdiv g)) → wX_addMode_33 post (nI S) (zz_i sg) (zz_i g) fm fr ft fo (nI cnt) n (nI i) tA sA x w pA cA := by
  intro e
  induction e with
  | zero =>
    intro i n x hi hn h1 h2
    obtain ⟨n, rfl⟩ : ∃ k, n = k + 1 := ⟨n - 1, by omega⟩
    rw [wX_addMode_33]
    exact pk_le 8 i (fun _ => ⟨vp_in_nI hcnt (by decide), nm_r (e' := upd sA cnt (nI S)) (by rw [nI_clamp (by omega)]) (nm_r (nI_1 cnt) (hp x h1 (fun j hj => h2 j (by omega))))⟩) (fun h => by omega)
  | succ e ih =>
    intro i n x hi hn h1 h2
    obtain ⟨n, rfl⟩ : ∃ k, n = k + 1 := ⟨n - 1, by omega⟩
    rw [wX_addMode_33]
    refine pk_le 8 i (fun h => by omega) (fun h => ⟨vp_in_nI h (by decide), ?_⟩)
    rw [nI_clamp (by omega), hc i h]
    have hfi := hfb i h
    have hg0 : ¬ zz_i g = 0 := fun z => by have := (zz_ie0 (by omega)).mp z; omega
    have c1 : (nI cnt * 8 + nI i).toNatClampNeg = 8 * cnt + i := by rw [zz_x, nI_clamp (by omega)]
    have v1 : vp_in (nI cnt * 8 + nI i) 2048 := by rw [zz_x]; exact vp_in_nI (by omega) (by decide)
    refine br_f hg0 ⟨hg0, v1, nm_r (e' := upd x (8 * cnt + i) (zz_i (sg * (f i).tdiv g))) (by rw [c1, zz_idiv (by omega) (by omega), zz_imul]) (nm_r (nI_1 i) (ih (i + 1) n _ (by omega) (by omega) (fun q hq => ?_) (fun j hj => ?_)))⟩
    · rw [pk_un (by omega)]; exact h1 q hq
    · by_cases hji : j = i
      · rw [hji, pk_us]
      · rw [pk_un (by omega)]; exact h2 j (by omega)
theorem xl_add (post : SX → Prop) (fm fr ft fo : Int32) (tA sA w pA cA xA : Nat → Int32) (S cnt : Nat) (sg : Int) (f : Nat → Int) (hcnt : cnt < 256) (hg : zz_gg f 8 ≠ 0) (hc : ∀ j, j < 8 → cA j = zz_i (f j)) (hfb : ∀ j, j < 8 → (f j).natAbs ≤ 1944)
    (hp : ∀ x : Nat → Int32, (∀ i, i < 8 * cnt → x i = xA i) → (∀ j, j < 8 → x (8 * cnt + j) = zz_i (sg * (f j).tdiv (zz_gg f 8))) → post (fm, fr, ft, fo, nI (cnt + 1), tA, upd sA cnt (nI S), x, w, pA, cA)) :
    wpX_addMode post (fm, fr, ft, fo, nI cnt, tA, sA, xA, w, pA, cA) (nI S) (zz_i sg) := by
  have hB : ∀ n, n ≤ 8 → zz_gg f n ≤ 1944 := fun n hn => gg_b n (fun c hc => hfb c (by omega))
  have H : ∀ (e i n : Nat), i + e = 8 → e < n → wX_addMode_5 post (nI S) (zz_i sg) fm fr ft fo (nI cnt) tA sA xA w pA cA n (zz_i (zz_gg f i)) (nI i) := by
    intro e
    induction e with
    | zero =>
      intro i n hi hn
      obtain ⟨n, rfl⟩ : ∃ k, n = k + 1 := ⟨n - 1, by omega⟩
      have hi8 : i = 8 := by omega
      subst hi8
      rw [wX_addMode_5]
      exact pk_le 8 8 (fun _ => ⟨9, xl_ad33 post fm fr ft fo tA sA w pA cA xA S cnt _ sg f hcnt hg (hB 8 (by omega)) hc hfb hp 8 0 9 xA rfl (by decide) (fun q hq => rfl) (fun j hj => absurd hj (Nat.not_lt_zero _))⟩) (fun h => by omega)
    | succ e ih =>
      intro i n hi hn
      obtain ⟨n, rfl⟩ : ∃ k, n = k + 1 := ⟨n - 1, by omega⟩
      rw [wX_addMode_5]
      refine pk_le 8 i (fun h => by omega) (fun h => ⟨vp_in_nI h (by decide), ?_⟩)
      rw [nI_clamp (by omega), hc i h]
      have h1 := hB i (by omega)
      have h2 := hfb i h
      exact ze_cd _ (by omega) (by omega) (nm_r (nI_1 i) (ih (i + 1) n (by omega) (by omega)))
  exact ⟨9, H 8 0 9 rfl (by decide)⟩
theorem md_gg {m S : Nat} {T : Nat → Int} (hm : m ≤ 4) (hT : ∀ i, (T i).natAbs ≤ 3) (hk : es_ok m S T) : zz_gg (es_v m S T) 8 ≠ 0 := by
  intro h0
  have hf := es_of (m := m) (S := S) (T := T) 8 (by have := hk.1; omega)
  exact hk.2 _ hf.1 hf.2.1 (gg_z h0 hf.1)
theorem md_hb {r S : Nat} (h : S < 2 ^ r) : ∀ j, r ≤ j → ¬ S.testBit j = true := by
  intro j hj
  rw [Nat.testBit_lt_two_pow (Nat.lt_of_lt_of_le h (Nat.pow_le_pow_right (by decide) hj))]; decide
theorem md_p8 {r : Nat} (h : r ≤ 8) : 2 ^ r ≤ 256 := Nat.le_trans (Nat.pow_le_pow_right (by decide) h) (by decide)
theorem xl_l14 (post : SX → Prop) (tA : Nat → Int32) (m r t o : Nat) (T : Nat → Int) (hm : m ≤ 4) (hr : r ≤ 8) (ho : o < 256) (hT : ∀ i, (T i).natAbs ≤ 3) (hA : ∀ i, i < 32 → tA i = zz_i (T i))
    (hp : ∀ sA xA w p c : Nat → Int32, md_L m r T t o (2 ^ r) sA xA → post (nI m, nI r, nI t, nI o, nI (md_c m r T t o (2 ^ r)), tA, sA, xA, w, p, c)) :
    ∀ (e S n : Nat) (sA xA w p c : Nat → Int32), S + e = 2 ^ r → e < n → 0 < S → md_L m r T t o S sA xA → wX_listModes_14 post (nI (2 ^ r)) n (nI S) (nI m) (nI r) (nI t) (nI o) (nI (md_c m r T t o S)) tA sA xA w p c := by
  have h256 := md_p8 hr
  intro e
  induction e with
  | zero =>
    intro S n sA xA w p c hS hn h0 hL
    obtain ⟨n, rfl⟩ : ∃ k, n = k + 1 := ⟨n - 1, by omega⟩
    have hS2 : S = 2 ^ r := by omega
    subst hS2
    rw [wX_listModes_14]
    exact pk_le (2 ^ r) (2 ^ r) (fun _ => hp sA xA w p c hL) (fun h => by omega)
  | succ e ih =>
    intro S n sA xA w p c hS hn h0 hL
    obtain ⟨n, rfl⟩ : ∃ k, n = k + 1 := ⟨n - 1, by omega⟩
    have hS2 : S < 2 ^ r := by omega
    have hno : ∀ w p c : Nat → Int32, ¬ md_g m r T t o S → wX_listModes_14 post (nI (2 ^ r)) n (nI (S + 1)) (nI m) (nI r) (nI t) (nI o) (nI (md_c m r T t o S)) tA sA xA w p c := by
      intro w p c hg
      have := ih (S + 1) n sA xA w p c (by omega) (by omega) (by omega) (fun S' hS' hg' => hL S' (by
        by_cases hs : S' = S
        · subst hs; exact absurd hg' hg
        · omega) hg')
      rw [md_cN hg] at this
      exact this
    rw [wX_listModes_14]
    refine pk_le (2 ^ r) S (fun h => by omega) (fun h => ?_)
    rw [nx_and]
    have hand : S &&& o ≤ S := Nat.and_le_left
    refine pk_eq (S &&& o) 0 (fun hso => ?_) (fun hso => nm_r (nI_1 S) (hno w p c (fun z => hso z.2.2.1)))
    refine xl_find _ (nI t) (nI o) _ tA sA xA w p c m r S T hm hr (by omega) (md_hb hS2) hT hA (fun hk w1 p1 c1 hc1 => ?_) (fun hk w1 p1 c1 => br_t rfl (nm_r (nI_1 S) (hno w1 p1 c1 (fun z => hk z.2.2.2.1))))
    refine br_f (by decide) ?_
    have hvb : ∀ j, j < 8 → (es_v m S T j).natAbs ≤ 1944 := fun j hj => es_vb hm hT (by have := hk.1; omega) hj
    refine xl_sign _ (nI m) (nI o) _ tA sA xA w1 p1 c1 r t S (es_v m S T) hr (by omega) h0 (md_hb hS2) hc1 hvb hk.2 ?_
    have hsb := sg_r S t (es_v m S T)
    have hs0 : zz_i (sg_s S t (es_v m S T)) = 0 ↔ sg_s S t (es_v m S T) = 0 := zz_ie0 (by omega)
    by_cases hsg : sg_s S t (es_v m S T) = 0
    · exact br_t (hs0.mpr hsg) (nm_r (nI_1 S) (hno w1 p1 c1 (fun z => z.2.2.2.2 hsg)))
    · have hg : md_g m r T t o S := ⟨h0, hS2, hso, hk, hsg⟩
      have hcb := md_cb (m := m) (r := r) (T := T) (t := t) (o := o) S h0
      refine br_f (fun z => hsg (hs0.mp z)) ?_
      refine xl_add _ (nI m) (nI r) (nI t) (nI o) tA sA w1 p1 c1 xA S (md_c m r T t o S) _ (es_v m S T) (by omega) (md_gg hm hT hk) hc1 hvb (fun x1 hx1 hx2 => nm_r (nI_1 S) ?_)
      have := ih (S + 1) n (upd sA (md_c m r T t o S) (nI S)) x1 w1 p1 c1 (by omega) (by omega) (by omega) (fun S' hS' hg' => ?_)
      · rw [md_cP hg] at this; exact this
      · by_cases hs : S' = S
        · subst hs; exact ⟨pk_us, hx2⟩
        · have hlt := md_cl hg' (show S' < S by omega)
          obtain ⟨l1, l2⟩ := hL S' (by omega) hg'
          refine ⟨by rw [pk_un (by omega)]; exact l1, fun j hj => ?_⟩
          rw [hx1 _ (by omega)]; exact l2 j hj
theorem xl_list (post : SX → Prop) (fc : Int32) (tA sA xA w p c : Nat → Int32) (m r t o : Nat) (T : Nat → Int) (hm : m ≤ 4) (hr : r ≤ 8) (ho : o < 256) (hT : ∀ i, (T i).natAbs ≤ 3) (hA : ∀ i, i < 32 → tA i = zz_i (T i))
    (hp : ∀ sA xA w p c : Nat → Int32, md_L m r T t o (2 ^ r) sA xA → post (nI m, nI r, nI t, nI o, nI (md_c m r T t o (2 ^ r)), tA, sA, xA, w, p, c)) :
    wpX_listModes post (nI m, nI r, nI t, nI o, fc, tA, sA, xA, w, p, c) := by
  refine nm_r (zz_sh (by omega)) ⟨2 ^ r + 1, ?_⟩
  have h1 : 0 < 2 ^ r := Nat.two_pow_pos r
  have := xl_l14 post tA m r t o T hm hr ho hT hA hp (2 ^ r - 1) 1 (2 ^ r + 1) sA xA w p c (by omega) (by omega) (by omega) (fun S hS hg => by have := hg.1; omega)
  rw [md_1] at this
  exact this
end
section
/-! the reference's list of modes -/
theorem zz_nb0 : vp_nar .boolean 0 = 0 := by decide
theorem zz_nb1 : vp_nar .boolean 1 = 1 := by decide
def yb_B (t : Nat) (bA : Nat → Int32) : Prop := ∀ j, j < 8 → bA j = if t.testBit j = true then 1 else 0
theorem yb_0 {t : Nat} {bA : Nat → Int32} (h : yb_B t bA) {j : Nat} (hj : j < 8) (hb : t.testBit j = false) : bA j = 0 := by
  rw [h j hj, hb]; rfl
theorem yb_1 {t : Nat} {bA : Nat → Int32} (h : yb_B t bA) {j : Nat} (hj : j < 8) (hb : t.testBit j = true) : ¬ bA j = 0 := by
  rw [h j hj, hb]; decide
theorem es_v0 {m S : Nat} {T : Nat → Int} (ho : (es_run m S T 8).2.2.1 = 1) {j : Nat} (hb : ¬ S.testBit j = true) : es_v m S T j = 0 := by
  rw [es_vN (fun z => hb z.1), if_neg]
  intro h
  have := (es_of (m := m) (S := S) (T := T) 8 (by omega)).2.1
  rw [← h] at this
  exact hb this
/-- two primitive vectors of one line agree up to the sign -/
theorem md_pm {n : Nat} {x y : Nat → Int} {α β : Int} (hα : α ≠ 0) (hβ : β ≠ 0) (hx : zz_gg x n ≠ 0) (hy : zz_gg y n = 1) (h : ∀ j, j < n → α * x j = β * y j) :
    (∀ j, j < n → y j = (x j).tdiv (zz_gg x n)) ∨ (∀ j, j < n → y j = -(x j).tdiv (zz_gg x n)) := by
  have hmul : ∀ j, j < n → x j = (zz_gg x n : Int) * (x j).tdiv (zz_gg x n) := fun j hj => (Int.mul_tdiv_cancel' (Int.ofNat_dvd_left.mpr (gg_d n j hj))).symm
  have h1 := gg_c (f := fun j => α * x j) (g := fun j => β * y j) n h
  rw [gg_m α x n, gg_m β y n, hy, Nat.mul_one] at h1
  have h2 : ∀ j, j < n → α * (zz_gg x n : Int) * (x j).tdiv (zz_gg x n) = β * y j := fun j hj => by rw [Int.mul_assoc, ← hmul j hj]; exact h j hj
  have h3 : (α * (zz_gg x n : Int)).natAbs = β.natAbs := by rw [Int.natAbs_mul, Int.natAbs_natCast]; exact h1
  rcases Int.natAbs_eq_natAbs_iff.mp h3 with h4 | h4
  · refine Or.inl (fun j hj => ?_)
    have := h2 j hj
    rw [h4] at this
    exact (Int.eq_of_mul_eq_mul_left hβ this).symm
  · refine Or.inr (fun j hj => ?_)
    have := h2 j hj
    rw [h4, Int.neg_mul, ← Int.mul_neg] at this
    exact (Int.eq_of_mul_eq_mul_left hβ this).symm
theorem md_sd {x : Int} {g : Nat} (hg : g ≠ 0) (hd : (g : Int) ∣ x) : (0 ≤ x.tdiv g ↔ 0 ≤ x) ∧ (x.tdiv g ≤ 0 ↔ x ≤ 0) := by
  obtain ⟨a, rfl⟩ := hd
  rw [Int.mul_tdiv_cancel_left _ (by omega : (g : Int) ≠ 0)]
  have hg' : (0 : Int) < g := by omega
  constructor
  · constructor
    · intro h; exact Int.mul_nonneg (by omega) h
    · intro h; exact Int.nonneg_of_mul_nonneg_right h hg'
  · constructor
    · intro h; exact Int.mul_nonpos_of_nonneg_of_nonpos (by omega) h
    · intro h
      by_cases ha : a ≤ 0
      · exact ha
      · have := Int.mul_pos hg' (by omega : 0 < a); omega
theorem md_eq {m S t : Nat} {T V : Nat → Int} (hm : m ≤ 4) (hT : ∀ i, (T i).natAbs ≤ 3) (hS : S < 256) (h0 : 0 < S) (hk : es_ok m S T) (hV : zz_gg V 8 = 1) (hpr : ∃ α β : Int, α ≠ 0 ∧ β ≠ 0 ∧ ∀ j, j < 8 → α * es_v m S T j = β * V j) :
    (∀ j, j < 8 → V j * sg_s S t V = md_x m S T t j) ∧ (sg_s S t V = 0 ↔ sg_s S t (es_v m S T) = 0) := by
  obtain ⟨α, β, hα, hβ, hh⟩ := hpr
  have hg := md_gg hm hT hk
  have hsd : ∀ j, j < 8 → (0 ≤ (es_v m S T j).tdiv (zz_gg (es_v m S T) 8) ↔ 0 ≤ es_v m S T j) ∧ ((es_v m S T j).tdiv (zz_gg (es_v m S T) 8) ≤ 0 ↔ es_v m S T j ≤ 0) := fun j hj => md_sd hg (Int.ofNat_dvd_left.mpr (gg_d 8 j hj))
  rcases md_pm hα hβ hg hV hh with h | h
  · have hs : sg_s S t V = sg_s S t (es_v m S T) := sg_pos hS h0 (fun j hj => by rw [h j hj]; exact hsd j hj)
    exact ⟨fun j hj => by rw [hs, h j hj]; exact Int.mul_comm _ _, by rw [hs]⟩
  · have hs : sg_s S t V = -sg_s S t (es_v m S T) := sg_neg hS h0 hk.2 (fun j hj => by
      have := hsd j hj
      rw [h j hj]; omega)
    refine ⟨fun j hj => ?_, by rw [hs]; omega⟩
    rw [hs, h j hj, Int.neg_mul_neg]; exact Int.mul_comm _ _
section
variable (fr fc : Int32) (tA bA oA : Nat → Int32) (w : Nat → Int64) (sI : Nat → Int32) (vA : Nat → Int64) (uA nA xA : Nat → Int32)
theorem yl_flows (post : Int32 → Prop) (fm x2 : Int32) (S t : Nat) (V : Nat → Int) (sg : Int) (hx2 : x2 = zz_i sg) (hsg : sg.natAbs ≤ 1) (hS : S < 256) (hB : yb_B t bA) (hv : ∀ j, j < 8 → vA j = zz_l (V j)) (hVb : ∀ j, j < 8 → (V j).natAbs ≤ 1944)
    (h1 : (∀ j, j < 8 → S.testBit j = true → V j ≠ 0 ∧ (t.testBit j = false → 0 ≤ V j * sg)) → post 1) (h0 : (¬ ∀ j, j < 8 → S.testBit j = true → V j ≠ 0 ∧ (t.testBit j = false → 0 ≤ V j * sg)) → post 0) :
    wpY_flows post (fm, fr, fc, tA, bA, oA, w, sI, vA, uA, nA, xA) (nI S) x2 := by
  subst hx2
  have H : ∀ (e j n : Nat), j + e = 8 → e < n → (∀ i, i < j → S.testBit i = true → V i ≠ 0 ∧ (t.testBit i = false → 0 ≤ V i * sg)) → wY_flows_2 post (nI S) (zz_i sg) fm fr fc tA bA oA w sI vA uA nA xA n (nI j) := by
    intro e
    induction e with
    | zero =>
      intro j n hj hn hi
      obtain ⟨n, rfl⟩ : ∃ k, n = k + 1 := ⟨n - 1, by omega⟩
      rw [wY_flows_2]
      exact pk_le 8 j (fun _ => h1 (fun i hi8 => hi i (by omega))) (fun h => by omega)
    | succ e ih =>
      intro j n hj hn hi
      obtain ⟨n, rfl⟩ : ∃ k, n = k + 1 := ⟨n - 1, by omega⟩
      rw [wY_flows_2]
      refine pk_le 8 j (fun h => by omega) (fun h => ?_)
      have hnext : (S.testBit j = true → V j ≠ 0 ∧ (t.testBit j = false → 0 ≤ V j * sg)) → wY_flows_2 post (nI S) (zz_i sg) fm fr fc tA bA oA w sI vA uA nA xA n (nI (j + 1)) := by
        intro hq
        refine ih (j + 1) n (by omega) (by omega) (fun i hi' => ?_)
        by_cases hij : i = j
        · rw [hij]; exact hq
        · exact hi i (by omega)
      by_cases hb : S.testBit j = true
      · refine yw_i1 _ (by omega) (by omega) hb (br_f (by decide) ⟨vp_in_nI h (by decide), ?_⟩)
        have hVj := hVb j h
        rw [nI_clamp (by omega), hv j h]
        by_cases hz : V j = 0
        · exact br_t ((zz_le0 (by omega)).mpr hz) (h0 (fun z => (z j h hb).1 hz))
        · refine br_f (fun z => hz ((zz_le0 (by omega)).mp z)) ⟨vp_in_nI h (by decide), ?_⟩
          cases ht : t.testBit j
          · refine br_t (yb_0 hB h ht) ⟨vp_in_nI h (by decide), ?_⟩
            have hmb := zz_mb hVj hsg
            rw [zz_il (by omega), zz_lmul]
            by_cases hs : 0 ≤ V j * sg
            · exact br_t ((zz_l0le (by omega)).mpr hs) (nm_r (nI_1 j) (hnext (fun _ => ⟨hz, fun _ => hs⟩)))
            · exact br_f (fun z => hs ((zz_l0le (by omega)).mp z)) (h0 (fun z => hs ((z j h hb).2 ht)))
          · exact br_f (yb_1 hB h ht) (nm_r (nI_1 j) (hnext (fun _ => ⟨hz, fun z => by rw [ht] at z; exact absurd z (by decide)⟩)))
      · exact yw_i0 _ (by omega) (by omega) hb (br_t rfl (nm_r (nI_1 j) (hnext (fun z => absurd z hb))))
  exact ⟨9, H 8 0 9 rfl (by decide) (fun i hi => absurd hi (Nat.not_lt_zero _))⟩
theorem yl_first (post : Int64 → Prop) (fm : Int32) (b : Nat) (V : Nat → Int) (hb : b < 8) (hv : ∀ j, j < 8 → vA j = zz_l (V j)) (hVb : ∀ j, j < 8 → (V j).natAbs ≤ 1944) (hz : V b ≠ 0) (hlo : ∀ i, i < b → V i = 0) (hp : post (zz_l (V b))) :
    wpY_firstValue post (fm, fr, fc, tA, bA, oA, w, sI, vA, uA, nA, xA) := by
  have H : ∀ (e j n : Nat), j + e = b → e < n → wY_firstValue_2 post fm fr fc tA bA oA w sI vA uA nA xA n (nI j) := by
    intro e
    induction e with
    | zero =>
      intro j n hj hn
      obtain ⟨n, rfl⟩ : ∃ k, n = k + 1 := ⟨n - 1, by omega⟩
      have hjb : j = b := by omega
      subst hjb
      have := hVb j hb
      rw [wY_firstValue_2]
      refine pk_le 8 j (fun h => by omega) (fun h => ⟨vp_in_nI h (by decide), ?_⟩)
      rw [nI_clamp (by omega), hv j hb]
      exact br_f (fun z => hz ((zz_le0 (by omega)).mp z)) ⟨vp_in_nI h (by decide), hp⟩
    | succ e ih =>
      intro j n hj hn
      obtain ⟨n, rfl⟩ : ∃ k, n = k + 1 := ⟨n - 1, by omega⟩
      have := hVb j (by omega)
      rw [wY_firstValue_2]
      refine pk_le 8 j (fun h => by omega) (fun h => ⟨vp_in_nI h (by decide), ?_⟩)
      rw [nI_clamp (by omega), hv j h]
      exact br_t ((zz_le0 (by omega)).mpr (hlo j (by omega))) (nm_r (nI_1 j) (ih (j + 1) n (by omega) (by omega)))
  exact ⟨b + 1, H b 0 (b + 1) (by omega) (by omega)⟩
end
theorem es_nb (S : Nat) : ∀ n, es_n S n ≤ n := by
  intro n
  induction n with
  | zero => exact Nat.le_refl _
  | succ n ih => show es_n S n + (if _ then 1 else 0) ≤ n + 1; split <;> omega
theorem yl_num (post : Int32 → Prop) (u : SY) (S : Nat) (hS : S < 256) (hp : post (nI (es_n S 8))) : wpY_number post u (nI S) := by
  obtain ⟨fm, fr, fc, tA, bA, oA, w, sI, vA, uA, nA, xA⟩ := u
  have H : ∀ (e j n : Nat), j + e = 8 → e < n → wY_number_4 post (nI S) fm fr fc tA bA oA w sI vA uA nA xA n (nI (es_n S j)) (nI j) := by
    intro e
    induction e with
    | zero =>
      intro j n hj hn
      obtain ⟨n, rfl⟩ : ∃ k, n = k + 1 := ⟨n - 1, by omega⟩
      have hj8 : j = 8 := by omega
      subst hj8
      rw [wY_number_4]
      exact pk_le 8 8 (fun _ => hp) (fun h => by omega)
    | succ e ih =>
      intro j n hj hn
      obtain ⟨n, rfl⟩ : ∃ k, n = k + 1 := ⟨n - 1, by omega⟩
      have h1 := ih (j + 1) n (by omega) (by omega)
      rw [wY_number_4]
      refine pk_le 8 j (fun h => by omega) (fun h => ?_)
      by_cases hb : S.testBit j = true
      · rw [show es_n S (j + 1) = es_n S j + 1 by show es_n S j + (if _ then 1 else 0) = _; rw [if_pos hb]] at h1
        exact yw_i1 _ (by omega) (by omega) hb (br_f (by decide) (nm_r (nI_1 _) (nm_r (nI_1 j) h1)))
      · rw [show es_n S (j + 1) = es_n S j by show es_n S j + (if _ then 1 else 0) = _; rw [if_neg hb]; rfl] at h1
        exact yw_i0 _ (by omega) (by omega) hb (br_t rfl (nm_r (nI_1 j) h1))
  exact ⟨9, H 8 0 9 rfl (by decide)⟩
end
section
/-! the reference's look at one set, and its list -/
section
variable (fm fr : Int32) (tA bA oA : Nat → Int32) (w : Nat → Int64) (sI : Nat → Int32) (vA : Nat → Int64) (uA nA xA : Nat → Int32)
theorem yl_177 (post : SY → Prop) (x5 : Int32) (cnt : Nat) (V : Nat → Int) (sg : Int) (hx5 : x5 = zz_i sg) (hsg : sg.natAbs ≤ 1) (hcnt : cnt < 256) (hv : ∀ j, j < 8 → vA j = zz_l (V j))
    (hp : ∀ x : Nat → Int32, (∀ i, i < 8 * cnt → x i = xA i) → (∀ j, j < 8 → x (8 * cnt + j) = zz_i (V j * sg)) → post (fm, fr, nI (cnt + 1), tA, bA, oA, w, sI, vA, uA, nA, x)) :
    ∃ n, wY_look_177 post x5 fm fr (nI cnt) n 0 tA bA oA w sI vA uA nA xA := by
  subst hx5
  have H : ∀ (e i n : Nat) (x : Nat → Int32), i + e = 8 → e < n → (∀ q, q < 8 * cnt → x q = xA q) → (∀ j, j < i → x (8 * cnt + j) = zz_i (V j * sg)) → wY_look_177 post (zz_i sg) fm fr (nI cnt) n (nI i) tA bA oA w sI vA uA nA x := by
    intro e
    induction e with
    | zero =>
      intro i n x hi hn h1 h2
      obtain ⟨n, rfl⟩ : ∃ k, n = k + 1 := ⟨n - 1, by omega⟩
      rw [wY_look_177]
      exact pk_le 8 i (fun _ => nm_r (nI_1 cnt) (hp x h1 (fun j hj => h2 j (by omega)))) (fun h => by omega)
    | succ e ih =>
      intro i n x hi hn h1 h2
      obtain ⟨n, rfl⟩ : ∃ k, n = k + 1 := ⟨n - 1, by omega⟩
      rw [wY_look_177]
      have c1 : (8 * nI cnt + nI i).toNatClampNeg = 8 * cnt + i := by rw [zz_y, nI_clamp (by omega)]
      have v1 : vp_in (8 * nI cnt + nI i) 2048 := by rw [zz_y]; exact vp_in_nI (by omega) (by decide)
      refine pk_le 8 i (fun h => by omega) (fun h => ⟨vp_in_nI h (by decide), v1, nm_r (e' := upd x (8 * cnt + i) (zz_i (V i * sg))) (by rw [c1, nI_clamp (by omega), hv i h, zz_il (by omega), zz_lmul, zz_li]) (nm_r (nI_1 i) (ih (i + 1) n _ (by omega) (by omega) (fun q hq => ?_) (fun j hj => ?_)))⟩)
      · rw [pk_un (by omega)]; exact h1 q hq
      · by_cases hji : j = i
        · rw [hji, pk_us]
        · rw [pk_un (by omega)]; exact h2 j (by omega)
  exact ⟨9, H 8 0 9 xA rfl (by decide) (fun q hq => rfl) (fun j hj => absurd hj (Nat.not_lt_zero _))⟩
theorem yl_130 (post : SY → Prop) (S x3 x4 x5 : Int32) (cnt : Nat) (V : Nat → Int) (sg : Int) (hx5 : x5 = zz_i sg) (hsg : sg.natAbs ≤ 1) (hcnt : cnt < 256) (hv : ∀ j, j < 8 → vA j = zz_l (V j))
    (hp : ∀ (x : Nat → Int32) (tv : Int32), (∀ i, i < 8 * cnt → x i = xA i) → (∀ j, j < 8 → x (8 * cnt + j) = zz_i (V j * sg)) → (tv = 0 ↔ ¬ (x3 ≠ 0 ∧ x4 ≠ 0)) → post (fm, fr, nI (cnt + 1), tA, bA, oA, w, sI, vA, upd uA cnt S, upd nA cnt tv, x)) :
    wY_look_130 post S x3 x4 x5 fm fr (nI cnt) tA bA oA w sI vA uA nA xA := by
  have vc : vp_in (nI cnt) 256 := vp_in_nI hcnt (by decide)
  refine br_t (nI_lt (b := 256) hcnt (by decide)) ⟨vc, nm_r (e' := upd uA cnt S) (by rw [nI_clamp (by omega)]) ?_⟩
  by_cases h3 : x3 = 0
  · refine br_t h3 ⟨vc, nm_r (e' := upd nA cnt 0) (by rw [nI_clamp (by omega), zz_nb0]) ?_⟩
    exact yl_177 fm fr tA bA oA w sI vA _ _ xA post x5 cnt V sg hx5 hsg hcnt hv (fun x h1 h2 => hp x 0 h1 h2 ⟨fun _ z => z.1 h3, fun _ => rfl⟩)
  · refine br_f h3 ?_
    by_cases h4 : x4 = 0
    · refine br_t h4 ⟨vc, nm_r (e' := upd nA cnt 0) (by rw [nI_clamp (by omega), zz_nb0]) ?_⟩
      exact yl_177 fm fr tA bA oA w sI vA _ _ xA post x5 cnt V sg hx5 hsg hcnt hv (fun x h1 h2 => hp x 0 h1 h2 ⟨fun _ z => z.2 h4, fun _ => rfl⟩)
    · refine br_f h4 ⟨vc, nm_r (e' := upd nA cnt 1) (by rw [nI_clamp (by omega), zz_nb1]) ?_⟩
      exact yl_177 fm fr tA bA oA w sI vA _ _ xA post x5 cnt V sg hx5 hsg hcnt hv (fun x h1 h2 => hp x 1 h1 h2 ⟨fun z => absurd z (by decide), fun z => absurd ⟨h3, h4⟩ z⟩)
theorem yl_98 (post : SY → Prop) (x3 x4 : Int32) (S t cnt : Nat) (V : Nat → Int) (hS : S < 256) (h0 : 0 < S) (hcnt : cnt < 256) (hv : ∀ j, j < 8 → vA j = zz_l (V j)) (hVb : ∀ j, j < 8 → (V j).natAbs ≤ 1944) (hnz : ∀ j, j < 8 → S.testBit j = true → V j ≠ 0) (hz : ∀ j, j < 8 → ¬ S.testBit j = true → V j = 0)
    (hx3 : x3 = 0 ↔ ¬ sg_A S t V) (hx4 : x4 = 0 ↔ ¬ sg_B S t V) (hor : sg_A S t V ∨ sg_B S t V)
    (hp : ∀ (x : Nat → Int32) (tv : Int32), (∀ i, i < 8 * cnt → x i = xA i) → (∀ j, j < 8 → x (8 * cnt + j) = zz_i (V j * sg_s S t V)) → (tv = 0 ↔ sg_one S t ≠ 0) → post (fm, fr, nI (cnt + 1), tA, bA, oA, w, sI, vA, upd uA cnt (nI S), upd nA cnt tv, x)) :
    wY_look_98 post (nI S) x3 x4 fm fr (nI cnt) tA bA oA w sI vA uA nA xA := by
  have hab := sg_AB (t := t) hS hnz
  have hbb : (x3 ≠ 0 ∧ x4 ≠ 0) ↔ sg_one S t = 0 := by
    rw [← hab]
    constructor
    · intro h
      exact ⟨Classical.byContradiction (fun z => h.1 (hx3.mpr z)), Classical.byContradiction (fun z => h.2 (hx4.mpr z))⟩
    · intro h
      exact ⟨fun z => hx3.mp z h.1, fun z => hx4.mp z h.2⟩
  have hgo : ∀ (x5 : Int32) (sg : Int), x5 = zz_i sg → sg = sg_s S t V → wY_look_130 post (nI S) x3 x4 x5 fm fr (nI cnt) tA bA oA w sI vA uA nA xA := by
    intro x5 sg h5 hs
    have hr := sg_r S t V
    refine yl_130 fm fr tA bA oA w sI vA uA nA xA post (nI S) x3 x4 x5 cnt V sg h5 (by omega) hcnt hv (fun x tv h1 h2 h3 => hp x tv h1 (by rw [← hs]; exact h2) ?_)
    rw [h3, hbb]
  by_cases a : sg_A S t V
  · have n3 : ¬ x3 = 0 := fun z => hx3.mp z a
    refine br_f n3 (br_f n3 ?_)
    by_cases b : sg_B S t V
    · have n4 : ¬ x4 = 0 := fun z => hx4.mp z b
      have hl := sg_l2 S hS h0
      have hlb := hVb _ hl.2
      refine br_f n4 (yl_first fr (nI cnt) tA bA oA w sI vA uA nA xA _ fm (sg_lb S) V hl.2 hv hVb (hnz _ hl.2 hl.1) (fun i hi => hz i (by omega) (by rw [sg_l3 S hS i (by omega) hi]; decide)) ?_)
      have hs := sg_1 a b
      by_cases hn : V (sg_lb S) < 0
      · rw [if_pos hn] at hs
        exact br_f (fun z => by have := (zz_l0le (by omega)).mp z; omega) (hgo _ (-1) rfl hs.symm)
      · rw [if_neg hn] at hs
        exact br_t ((zz_l0le (by omega)).mpr (by omega)) (hgo _ 1 rfl hs.symm)
    · exact br_t (hx4.mpr b) (hgo _ 1 rfl (sg_2 a b).symm)
  · have b : sg_B S t V := hor.resolve_left a
    have e3 : x3 = 0 := hx3.mpr a
    exact br_t e3 (br_t e3 (hgo _ (-1) rfl (sg_3 a b).symm))
end
theorem yl_look (post : SY → Prop) (tA bA oA : Nat → Int32) (w : Nat → Int64) (sI : Nat → Int32) (vA : Nat → Int64) (uA nA xA : Nat → Int32) (m r t o S cnt : Nat) (T : Nat → Int) (hm : m ≤ 4) (hr : r ≤ 8) (hS : S < 256) (h0 : 0 < S) (hcnt : cnt < 256) (hT : ∀ i, (T i).natAbs ≤ 3) (hA : ∀ i, i < 32 → tA i = zz_i (T i)) (hB : yb_B t bA) (hO : yb_B o oA)
    (hg : md_g m r T t o S → ∀ (w : Nat → Int64) (sI : Nat → Int32) (vA : Nat → Int64) (x : Nat → Int32) (tv : Int32), (∀ i, i < 8 * cnt → x i = xA i) → (∀ j, j < 8 → x (8 * cnt + j) = zz_i (md_x m S T t j)) → (tv = 0 ↔ sg_one S t ≠ 0) → post (nI m, nI r, nI (cnt + 1), tA, bA, oA, w, sI, vA, upd uA cnt (nI S), upd nA cnt tv, x))
    (hn : ¬ md_g m r T t o S → ∀ (w : Nat → Int64) (sI : Nat → Int32) (vA : Nat → Int64), post (nI m, nI r, nI cnt, tA, bA, oA, w, sI, vA, uA, nA, xA)) :
    wpY_look post (nI m, nI r, nI cnt, tA, bA, oA, w, sI, vA, uA, nA, xA) (nI S) := by
  have H : ∀ (e j n : Nat), j + e = 8 → e < n → (∀ i, i < j → S.testBit i = true → i < r ∧ o.testBit i = false) → wY_look_2 post (nI S) (nI m) (nI r) (nI cnt) tA bA oA w sI vA uA nA xA n (nI j) := by
    intro e
    induction e with
    | zero =>
      intro j n hj hn2 hi
      obtain ⟨n, rfl⟩ : ∃ k, n = k + 1 := ⟨n - 1, by omega⟩
      have hj8 : j = 8 := by omega
      subst hj8
      have hSr : S < 2 ^ r := by
        apply Nat.lt_pow_two_of_testBit
        intro i hi2
        cases hb : S.testBit i
        · rfl
        · by_cases hi8 : i < 8
          · have := (hi i hi8 hb).1; omega
          · rw [zz_hib hS (by omega)] at hb; exact absurd hb (by decide)
      have hSo : S &&& o = 0 := by
        apply Nat.eq_of_testBit_eq
        intro i
        rw [Nat.testBit_and, Nat.zero_testBit]
        cases hb : S.testBit i
        · rfl
        · by_cases hi8 : i < 8
          · rw [(hi i hi8 hb).2]; rfl
          · rw [zz_hib hS (by omega)] at hb; exact absurd hb (by decide)
      rw [wY_look_2]
      refine pk_le 8 8 (fun _ => yl_num _ _ S hS ?_) (fun h => by omega)
      have hcn := es_cnt (m := m) (S := S) (T := T) 8
      have hkm := (es_bd hm (es_Ir (S := S) hm hT 8 (Nat.le_refl _))).2.2
      have hnb := es_nb S 8
      rw [nI_1]
      refine pk_le (es_n S 8) (m + 1) (fun _ => ?_) (fun h => hn (fun z => by have := z.2.2.2.1.1; omega) w sI vA)
      refine yl_solve (nI r) (nI cnt) tA bA oA sI vA uA nA xA _ w m S T hm hS hT hA (fun ho w1 s1 Y hw1 hR hs1 => ?_) (fun ho w1 s1 => br_f (by decide) (hn (fun z => ho z.2.2.2.1.1) w1 s1 vA))
      have hf := es_of (m := m) (S := S) (T := T) 8 (by omega)
      refine br_t (nI_pos' (by omega)) ?_
      refine yl_dir (nI r) (nI cnt) tA bA oA w1 s1 uA nA xA _ vA (nI S) m S T Y hm hT ho hw1 hR hs1 (fun v1 V hv1 hV1 hpr hVb => ?_)
      have hzz : ∀ j, j < 8 → (es_v m S T j = 0 ↔ V j = 0) := by
        intro j hj
        obtain ⟨α, β, hα, hβ, hh⟩ := hpr
        have e := hh j hj
        constructor
        · intro z; rw [z, Int.mul_zero] at e; exact (Int.mul_eq_zero.mp e.symm).resolve_left hβ
        · intro z; rw [z, Int.mul_zero] at e; exact (Int.mul_eq_zero.mp e).resolve_left hα
      by_cases hnz : ∀ j, j < 8 → S.testBit j = true → V j ≠ 0
      · have hk : es_ok m S T := ⟨ho, fun j hj hb z => hnz j hj hb ((hzz j hj).mp z)⟩
        have hV0 : ∀ j, j < 8 → ¬ S.testBit j = true → V j = 0 := fun j hj hb => (hzz j hj).mp (es_v0 ho hb)
        obtain ⟨hq1, hq2⟩ := md_eq (t := t) hm hT hS h0 hk hV1 hpr
        have hA1 : (∀ j, j < 8 → S.testBit j = true → V j ≠ 0 ∧ (t.testBit j = false → 0 ≤ V j * 1)) ↔ sg_A S t V := ⟨fun h j hj hb ht => by have := (h j hj hb).2 ht; omega, fun h j hj hb => ⟨hnz j hj hb, fun ht => by have := h j hj hb ht; omega⟩⟩
        have hB1 : (∀ j, j < 8 → S.testBit j = true → V j ≠ 0 ∧ (t.testBit j = false → 0 ≤ V j * (-1))) ↔ sg_B S t V := ⟨fun h j hj hb ht => by have := (h j hj hb).2 ht; omega, fun h j hj hb => ⟨hnz j hj hb, fun ht => by have := h j hj hb ht; omega⟩⟩
        have hfin : ∀ x3 x4 : Int32, (x3 = 0 ↔ ¬ sg_A S t V) → (x4 = 0 ↔ ¬ sg_B S t V) → (sg_A S t V ∨ sg_B S t V) → wY_look_98 post (nI S) x3 x4 (nI m) (nI r) (nI cnt) tA bA oA w1 s1 v1 uA nA xA := by
          intro x3 x4 h3 h4 hor
          have hsg : sg_s S t V ≠ 0 := by
            by_cases a : sg_A S t V <;> by_cases b : sg_B S t V
            · rw [sg_1 a b]; split <;> decide
            · rw [sg_2 a b]; decide
            · rw [sg_3 a b]; decide
            · exact absurd hor (fun z => z.elim a b)
          refine yl_98 (nI m) (nI r) tA bA oA w1 s1 v1 uA nA xA post x3 x4 S t cnt V hS h0 hcnt hv1 hVb hnz hV0 h3 h4 hor (fun x tv hx1 hx2 htv => ?_)
          exact hg ⟨h0, hSr, hSo, hk, fun z => hsg (hq2.mpr z)⟩ w1 s1 v1 x tv hx1 (fun j hj => by rw [hx2 j hj, hq1 j hj]) htv
        refine yl_flows (nI r) (nI cnt) tA bA oA w1 s1 v1 uA nA xA _ (nI m) 1 S t V 1 rfl (by decide) hS hB hv1 hVb (fun ha => ?_) (fun ha => ?_)
        · refine yl_flows (nI r) (nI cnt) tA bA oA w1 s1 v1 uA nA xA _ (nI m) (-1) S t V (-1) rfl (by decide) hS hB hv1 hVb (fun hb => ?_) (fun hb => ?_)
          · exact br_f (by decide) (hfin 1 1 ⟨fun z => absurd z (by decide), fun z => absurd (hA1.mp ha) z⟩ ⟨fun z => absurd z (by decide), fun z => absurd (hB1.mp hb) z⟩ (Or.inl (hA1.mp ha)))
          · exact br_f (by decide) (hfin 1 0 ⟨fun z => absurd z (by decide), fun z => absurd (hA1.mp ha) z⟩ ⟨fun _ z => hb (hB1.mpr z), fun _ => rfl⟩ (Or.inl (hA1.mp ha)))
        · refine yl_flows (nI r) (nI cnt) tA bA oA w1 s1 v1 uA nA xA _ (nI m) (-1) S t V (-1) rfl (by decide) hS hB hv1 hVb (fun hb => ?_) (fun hb => ?_)
          · exact br_t rfl (br_f (by decide) (hfin 0 1 ⟨fun _ z => ha (hA1.mpr z), fun _ => rfl⟩ ⟨fun z => absurd z (by decide), fun z => absurd (hB1.mp hb) z⟩ (Or.inr (hB1.mp hb))))
          · refine br_t rfl (br_t rfl (hn (fun z => z.2.2.2.2 (hq2.mp ?_)) w1 s1 v1))
            exact sg_4 (fun z => ha (hA1.mpr z)) (fun z => hb (hB1.mpr z))
      · have hnok : ¬ md_g m r T t o S := fun z => hnz (fun j hj hb hz => z.2.2.2.1.2 j hj hb ((hzz j hj).mpr hz))
        have hf1 : ∀ sg : Int, ¬ ∀ j, j < 8 → S.testBit j = true → V j ≠ 0 ∧ (t.testBit j = false → 0 ≤ V j * sg) := fun sg z => hnz (fun j hj hb => (z j hj hb).1)
        refine yl_flows (nI r) (nI cnt) tA bA oA w1 s1 v1 uA nA xA _ (nI m) 1 S t V 1 rfl (by decide) hS hB hv1 hVb (fun ha => absurd ha (hf1 1)) (fun ha => ?_)
        refine yl_flows (nI r) (nI cnt) tA bA oA w1 s1 v1 uA nA xA _ (nI m) (-1) S t V (-1) rfl (by decide) hS hB hv1 hVb (fun hb => absurd hb (hf1 (-1))) (fun hb => ?_)
        exact br_t rfl (br_t rfl (hn hnok w1 s1 v1))
    | succ e ih =>
      intro j n hj hn2 hi
      obtain ⟨n, rfl⟩ : ∃ k, n = k + 1 := ⟨n - 1, by omega⟩
      rw [wY_look_2]
      refine pk_le 8 j (fun h => by omega) (fun h => ?_)
      have hnext : (S.testBit j = true → j < r ∧ o.testBit j = false) → wY_look_2 post (nI S) (nI m) (nI r) (nI cnt) tA bA oA w sI vA uA nA xA n (nI (j + 1)) := by
        intro hq
        refine ih (j + 1) n (by omega) (by omega) (fun i hi' => ?_)
        by_cases hij : i = j
        · rw [hij]; exact hq
        · exact hi i (by omega)
      by_cases hb : S.testBit j = true
      · refine yw_i1 _ (by omega) (by omega) hb (br_f (by decide) (pk_le r j (fun hrj => hn (fun z => md_hb z.2.1 j hrj hb) w sI vA) (fun hrj => ⟨vp_in_nI h (by decide), ?_⟩)))
        rw [nI_clamp (by omega)]
        cases ht : o.testBit j
        · exact br_t (yb_0 hO h ht) (nm_r (nI_1 j) (hnext (fun _ => ⟨hrj, ht⟩)))
        · refine br_f (yb_1 hO h ht) (hn (fun z => ?_) w sI vA)
          have h1 : (S &&& o).testBit j = false := by rw [z.2.2.1, Nat.zero_testBit]
          rw [Nat.testBit_and, hb, ht] at h1
          exact absurd h1 (by decide)
      · exact yw_i0 _ (by omega) (by omega) hb (br_t rfl (nm_r (nI_1 j) (hnext (fun z => absurd z hb))))
  exact ⟨9, H 8 0 9 rfl (by decide) (fun i hi => absurd hi (Nat.not_lt_zero _))⟩
def md_M (m r : Nat) (T : Nat → Int) (t o n : Nat) (uA nA xA : Nat → Int32) : Prop := ∀ S, S < n → md_g m r T t o S → uA (md_c m r T t o S) = nI S ∧ (nA (md_c m r T t o S) = 0 ↔ sg_one S t ≠ 0) ∧ ∀ j, j < 8 → xA (8 * md_c m r T t o S + j) = zz_i (md_x m S T t j)
theorem md_hi {m r : Nat} {T : Nat → Int} {t o : Nat} : ∀ i, md_c m r T t o (2 ^ r + i) = md_c m r T t o (2 ^ r) := by
  intro i
  induction i with
  | zero => rfl
  | succ i ih => rw [← Nat.add_assoc, md_cN (fun z => by have := z.2.1; omega), ih]
theorem md_256 {m r : Nat} {T : Nat → Int} {t o : Nat} (hr : r ≤ 8) : md_c m r T t o 256 = md_c m r T t o (2 ^ r) := by
  have h := md_p8 hr
  have := md_hi (m := m) (r := r) (T := T) (t := t) (o := o) (256 - 2 ^ r)
  rw [show 2 ^ r + (256 - 2 ^ r) = 256 by omega] at this
  exact this
theorem yl_list (post : SY → Prop) (fc : Int32) (tA bA oA : Nat → Int32) (w : Nat → Int64) (sI : Nat → Int32) (vA : Nat → Int64) (uA nA xA : Nat → Int32) (m r t o : Nat) (T : Nat → Int) (hm : m ≤ 4) (hr : r ≤ 8) (hT : ∀ i, (T i).natAbs ≤ 3) (hA : ∀ i, i < 32 → tA i = zz_i (T i)) (hB : yb_B t bA) (hO : yb_B o oA)
    (hp : ∀ (w : Nat → Int64) (sI : Nat → Int32) (vA : Nat → Int64) (uA nA xA : Nat → Int32), md_M m r T t o (2 ^ r) uA nA xA → post (nI m, nI r, nI (md_c m r T t o (2 ^ r)), tA, bA, oA, w, sI, vA, uA, nA, xA)) :
    wpY_list post (nI m, nI r, fc, tA, bA, oA, w, sI, vA, uA, nA, xA) := by
  have h256 := md_p8 hr
  have H : ∀ (e S n : Nat) (w : Nat → Int64) (sI : Nat → Int32) (vA : Nat → Int64) (uA nA xA : Nat → Int32), S + e = 256 → e < n → 0 < S → md_M m r T t o S uA nA xA → wY_list_7 post n (nI S) (nI m) (nI r) (nI (md_c m r T t o S)) tA bA oA w sI vA uA nA xA := by
    intro e
    induction e with
    | zero =>
      intro S n w sI vA uA nA xA hS hn h0 hL
      obtain ⟨n, rfl⟩ : ∃ k, n = k + 1 := ⟨n - 1, by omega⟩
      have hS8 : S = 256 := by omega
      subst hS8
      rw [wY_list_7]
      refine pk_le 256 256 (fun _ => ?_) (fun h => by omega)
      rw [md_256 hr]
      exact hp w sI vA uA nA xA (fun S' hS' => hL S' (by omega))
    | succ e ih =>
      intro S n w sI vA uA nA xA hS hn h0 hL
      obtain ⟨n, rfl⟩ : ∃ k, n = k + 1 := ⟨n - 1, by omega⟩
      rw [wY_list_7]
      have hcb := md_cb (m := m) (r := r) (T := T) (t := t) (o := o) S h0
      refine pk_le 256 S (fun h => by omega) (fun h => ?_)
      refine yl_look _ tA bA oA w sI vA uA nA xA m r t o S (md_c m r T t o S) T hm hr h h0 (by omega) hT hA hB hO (fun hg w1 s1 v1 x1 tv hx1 hx2 htv => nm_r (nI_1 S) ?_) (fun hg w1 s1 v1 => nm_r (nI_1 S) ?_)
      · have := ih (S + 1) n w1 s1 v1 (upd uA (md_c m r T t o S) (nI S)) (upd nA (md_c m r T t o S) tv) x1 (by omega) (by omega) (by omega) (fun S' hS' hg' => ?_)
        · rw [md_cP hg] at this; exact this
        · by_cases hs : S' = S
          · subst hs; exact ⟨pk_us, by rw [pk_us]; exact htv, hx2⟩
          · have hlt := md_cl hg' (show S' < S by omega)
            obtain ⟨l1, l2, l3⟩ := hL S' (by omega) hg'
            refine ⟨by rw [pk_un (by omega)]; exact l1, by rw [pk_un (by omega)]; exact l2, fun j hj => ?_⟩
            rw [hx1 _ (by omega)]; exact l3 j hj
      · have := ih (S + 1) n w1 s1 v1 uA nA xA (by omega) (by omega) (by omega) (fun S' hS' hg' => hL S' (by
          by_cases hs : S' = S
          · subst hs; exact absurd hg' hg
          · omega) hg')
        rw [md_cN hg] at this; exact this
  have := H 255 1 256 w sI vA uA nA xA rfl (by decide) (by decide) (fun S hS hg => by have := hg.1; omega)
  rw [md_1] at this
  exact ⟨256, this⟩
end
section
/-! the relation; the constructor, the changes, and the questions without a loop -/
def rl_T (tA : Nat → Int32) : Nat → Int := fun i => (tA i).toInt
def rl_R (u : SX) (v : SY) : Prop := ∃ (m r t o : Nat) (tA sA xA w p c : Nat → Int32) (fc : Int32) (bA oA : Nat → Int32) (w' : Nat → Int64) (sI : Nat → Int32) (vA : Nat → Int64) (uA nA yA : Nat → Int32),
  m ≤ 4 ∧ r ≤ 8 ∧ t < 256 ∧ o < 256 ∧ (∀ i, (rl_T tA i).natAbs ≤ 3) ∧ yb_B t bA ∧ yb_B o oA ∧ md_L m r (rl_T tA) t o (2 ^ r) sA xA ∧
  u = (nI m, nI r, nI t, nI o, nI (md_c m r (rl_T tA) t o (2 ^ r)), tA, sA, xA, w, p, c) ∧ v = (nI m, nI r, fc, tA, bA, oA, w', sI, vA, uA, nA, yA)
def i_Rel (k : Nat) (u : SX) (v : SY) : Prop := rl_R u v
theorem i_up {k : Nat} {u : SX} {v : SY} (h : i_Rel k u v) : i_Rel (k + 4) u v := h
theorem rl_A (tA : Nat → Int32) : ∀ i, i < 32 → tA i = zz_i (rl_T tA i) := fun i _ => (zz_ti (tA i)).symm
theorem rl_c0 (k0 k1 : Int32) : ∃ m, m ≤ 4 ∧ (∀ post : Int32 → Prop, post (nI m) → wpX_clamp post k0 1 4) ∧ (∀ post : SY → Prop, wY_init_99 post k1 (nI m) 0 0 0 (fun _ => 0) (fun _ => 0) (fun _ => 0) (fun _ => 0) (fun _ => 0) (fun _ => 0) (fun _ => 0) (fun _ => 0) (fun _ => 0) → wpY_init post k0 k1) := by
  by_cases h1 : 1 ≤ k0
  · by_cases h4 : k0 ≤ 4
    · obtain ⟨j, hj, rfl⟩ := nI_of2 (n := 4) (by decide) (fun z => by
        have a := Int32.le_iff_toInt_le.mp h1
        have b := Int32.lt_iff_toInt_lt.mp z
        have e1 : (1 : Int32).toInt = 1 := by decide
        have e0 : (0 : Int32).toInt = 0 := by decide
        omega) h4
      exact ⟨j, hj, fun post hp => br_t h1 (br_t h4 hp), fun post hp => br_t h1 (br_t h4 hp)⟩
    · exact ⟨4, by omega, fun post hp => br_t h1 (br_f h4 hp), fun post hp => br_t h1 (br_f h4 hp)⟩
  · exact ⟨1, by omega, fun post hp => br_f h1 hp, fun post hp => br_f h1 hp⟩
theorem rl_c1 (k1 : Int32) : ∃ r, r ≤ 8 ∧ (∀ post : Int32 → Prop, post (nI r) → wpX_clamp post k1 2 8) ∧ (∀ (post : SY → Prop) (z0 fm fr fc : Int32) (tA bA oA : Nat → Int32) (w : Nat → Int64) (sI : Nat → Int32) (vA : Nat → Int64) (uA nA yA : Nat → Int32), post (z0, nI r, fc, tA, bA, oA, w, sI, vA, uA, nA, yA) → wY_init_99 post k1 z0 fm fr fc tA bA oA w sI vA uA nA yA) := by
  by_cases h1 : 2 ≤ k1
  · by_cases h4 : k1 ≤ 8
    · obtain ⟨j, hj, rfl⟩ := nI_of2 (n := 8) (by decide) (fun z => by
        have a := Int32.le_iff_toInt_le.mp h1
        have b := Int32.lt_iff_toInt_lt.mp z
        have e1 : (2 : Int32).toInt = 2 := by decide
        have e0 : (0 : Int32).toInt = 0 := by decide
        omega) h4
      exact ⟨j, hj, fun post hp => br_t h1 (br_t h4 hp), fun post z0 fm fr fc tA bA oA w sI vA uA nA yA hp => br_t h1 (br_t h4 hp)⟩
    · exact ⟨8, by omega, fun post hp => br_t h1 (br_f h4 hp), fun post z0 fm fr fc tA bA oA w sI vA uA nA yA hp => br_t h1 (br_f h4 hp)⟩
  · exact ⟨2, by omega, fun post hp => br_f h1 hp, fun post z0 fm fr fc tA bA oA w sI vA uA nA yA hp => br_f h1 hp⟩
theorem i_vc0 (k0 : Int32) (k1 : Int32) : wpX_init (fun u => wpY_init (fun v => i_Rel 2 u v) k0 k1) k0 k1 := by
  obtain ⟨m, hm, hx, hy⟩ := rl_c0 k0 k1
  obtain ⟨r, hr, gx, gy⟩ := rl_c1 k1
  have hT : ∀ i, (rl_T (fun _ => 0) i).natAbs ≤ 3 := fun i => by show ((0 : Int32).toInt).natAbs ≤ 3; decide
  unfold wpX_init
  refine hx _ (gx _ ?_)
  refine xl_list _ 0 (fun _ => 0) (fun _ => 0) (fun _ => 0) (fun _ => 0) (fun _ => 0) (fun _ => 0) m r 0 0 (rl_T (fun _ => 0)) hm hr (by decide) hT (rl_A _) (fun sA xA w p c hL => ?_)
  refine hy _ (gy _ _ _ _ _ _ _ _ _ _ _ _ _ _ ?_)
  exact ⟨m, r, 0, 0, _, sA, xA, w, p, c, 0, _, _, _, _, _, _, _, _, hm, hr, by decide, by decide, hT, fun j hj => by rw [Nat.zero_testBit]; rfl, fun j hj => by rw [Nat.zero_testBit]; rfl, hL, rfl, rfl⟩
/-! the guards -/
theorem gd_S1 {post : Int32 → Prop} {m s : Nat} {fr ft fo fc : Int32} {tA sA xA w p c : Nat → Int32} (hm : m ≤ 4) (hs : s < m) (h : post 1) : wpX_isSubstance post (nI m, fr, ft, fo, fc, tA, sA, xA, w, p, c) (nI s) :=
  br_f (nI_pos (by omega)) (br_f (nI_ge hs (by omega)) h)
theorem gd_S0 {post : Int32 → Prop} {m : Nat} {x fr ft fo fc : Int32} {tA sA xA w p c : Nat → Int32} (hs : x < 0 ∨ nI m ≤ x) (h : post 0) : wpX_isSubstance post (nI m, fr, ft, fo, fc, tA, sA, xA, w, p, c) x := by
  by_cases h0 : x < 0
  · exact br_t h0 h
  · exact br_f h0 (br_t (hs.resolve_left h0) h)
theorem gd_J1 {post : Int32 → Prop} {r s : Nat} {fm ft fo fc : Int32} {tA sA xA w p c : Nat → Int32} (hr : r ≤ 8) (hs : s < r) (h : post 1) : wpX_isReaction post (fm, nI r, ft, fo, fc, tA, sA, xA, w, p, c) (nI s) :=
  br_f (nI_pos (by omega)) (br_f (nI_ge hs (by omega)) h)
theorem gd_J0 {post : Int32 → Prop} {r : Nat} {x fm ft fo fc : Int32} {tA sA xA w p c : Nat → Int32} (hs : x < 0 ∨ nI r ≤ x) (h : post 0) : wpX_isReaction post (fm, nI r, ft, fo, fc, tA, sA, xA, w, p, c) x := by
  by_cases h0 : x < 0
  · exact br_t h0 h
  · exact br_f h0 (br_t (hs.resolve_left h0) h)
theorem gd_M1 {post : Int32 → Prop} {n s : Nat} {fm fr ft fo : Int32} {tA sA xA w p c : Nat → Int32} (hn : n < 256) (hs : s < n) (h : post 1) : wpX_isMode post (fm, fr, ft, fo, nI n, tA, sA, xA, w, p, c) (nI s) :=
  br_f (nI_pos (by omega)) (br_f (nI_ge hs (by omega)) h)
theorem gd_M0 {post : Int32 → Prop} {n : Nat} {x fm fr ft fo : Int32} {tA sA xA w p c : Nat → Int32} (hs : x < 0 ∨ nI n ≤ x) (h : post 0) : wpX_isMode post (fm, fr, ft, fo, nI n, tA, sA, xA, w, p, c) x := by
  by_cases h0 : x < 0
  · exact br_t h0 h
  · exact br_f h0 (br_t (hs.resolve_left h0) h)
theorem gd_s1 {post : Int32 → Prop} {m s : Nat} {fr fc : Int32} {tA bA oA : Nat → Int32} {w : Nat → Int64} {sI : Nat → Int32} {vA : Nat → Int64} {uA nA yA : Nat → Int32} (hm : m ≤ 4) (hs : s < m) (h : post 0) : wpY_badSubstance post (nI m, fr, fc, tA, bA, oA, w, sI, vA, uA, nA, yA) (nI s) :=
  br_f (nI_pos (by omega)) (br_f (nI_ge hs (by omega)) (br_t (nI_lt (b := 4) (by omega) (by decide)) h))
theorem gd_s0 {post : Int32 → Prop} {m : Nat} {x fr fc : Int32} {tA bA oA : Nat → Int32} {w : Nat → Int64} {sI : Nat → Int32} {vA : Nat → Int64} {uA nA yA : Nat → Int32} (hs : x < 0 ∨ nI m ≤ x) (h : post 1) : wpY_badSubstance post (nI m, fr, fc, tA, bA, oA, w, sI, vA, uA, nA, yA) x := by
  by_cases h0 : x < 0
  · exact br_t h0 h
  · exact br_f h0 (br_t (hs.resolve_left h0) h)
theorem gd_j1 {post : Int32 → Prop} {r s : Nat} {fm fc : Int32} {tA bA oA : Nat → Int32} {w : Nat → Int64} {sI : Nat → Int32} {vA : Nat → Int64} {uA nA yA : Nat → Int32} (hr : r ≤ 8) (hs : s < r) (h : post 0) : wpY_badReaction post (fm, nI r, fc, tA, bA, oA, w, sI, vA, uA, nA, yA) (nI s) :=
  br_f (nI_pos (by omega)) (br_f (nI_ge hs (by omega)) (br_t (nI_lt (b := 8) (by omega) (by decide)) h))
theorem gd_j0 {post : Int32 → Prop} {r : Nat} {x fm fc : Int32} {tA bA oA : Nat → Int32} {w : Nat → Int64} {sI : Nat → Int32} {vA : Nat → Int64} {uA nA yA : Nat → Int32} (hs : x < 0 ∨ nI r ≤ x) (h : post 1) : wpY_badReaction post (fm, nI r, fc, tA, bA, oA, w, sI, vA, uA, nA, yA) x := by
  by_cases h0 : x < 0
  · exact br_t h0 h
  · exact br_f h0 (br_t (hs.resolve_left h0) h)
theorem gd_ix (x : Int32) {n : Nat} (hn : n < 2 ^ 31) : (x < 0 ∨ nI n ≤ x) ∨ ∃ j : Nat, j < n ∧ x = nI j := by
  rcases pk_ix x hn with h | h | h
  · exact Or.inl (Or.inl h)
  · exact Or.inl (Or.inr h)
  · exact Or.inr h
theorem i_vc_set {k : Nat} {u : SX} {v : SY} (I : i_Rel k u v) (hk : k + 4 ≤ 2050) (v1 : Int32) (v2 : Int32) (v3 : Int32) : wpX_set (fun r u' => wpY_set (fun r' v' => r' = r ∧ i_Rel (k + 4) u' v') v v1 v2 v3) u v1 v2 v3 := by
  have I' := I
  obtain ⟨m, r, t, o, tA, sA, xA, w, p, c, fc, bA, oA, w', sI, vA, uA, nA, yA, hm, hr, ht, ho, hT, hB, hO, hL, rfl, rfl⟩ := I
  unfold wpX_set wpY_set
  rcases gd_ix v1 (n := m) (by omega) with h1 | ⟨s, hs, rfl⟩
  · exact gd_S0 h1 (br_t rfl (gd_s0 h1 (br_f (by decide) ⟨rfl, I'⟩)))
  · refine gd_S1 hm hs (br_f (by decide) ?_)
    rcases gd_ix v2 (n := r) (by omega) with h2 | ⟨j, hj, rfl⟩
    · exact gd_J0 h2 (br_t rfl (gd_s1 hm hs (br_t rfl (gd_j0 h2 (br_f (by decide) ⟨rfl, I'⟩)))))
    · refine gd_J1 hr hj (br_f (by decide) ?_)
      by_cases h3 : v3 < -3
      · exact br_t h3 (gd_s1 hm hs (br_t rfl (gd_j1 hr hj (br_t rfl (br_t h3 ⟨rfl, I'⟩)))))
      · refine br_f h3 ?_
        by_cases h4 : v3 ≤ 3
        · have v1 : vp_in (nI s * 8 + nI j) 32 := by rw [zz_x]; exact vp_in_nI (by omega) (by decide)
          have v2 : vp_in (8 * nI s + nI j) 32 := by rw [zz_y]; exact vp_in_nI (by omega) (by decide)
          have hT' : ∀ i, (rl_T (upd tA (8 * s + j) v3) i).natAbs ≤ 3 := by
            intro i
            show ((upd tA (8 * s + j) v3 i).toInt).natAbs ≤ 3
            by_cases hi : i = 8 * s + j
            · rw [hi, pk_us]
              have a := Int32.le_iff_toInt_le.mp h4
              have b := fun z => h3 (Int32.lt_iff_toInt_lt.mpr z)
              have e1 : (3 : Int32).toInt = 3 := by decide
              have e2 : (-3 : Int32).toInt = -3 := by decide
              rw [e1] at a
              rw [e2] at b
              have b' : ¬ v3.toInt < -3 := b
              omega
            · rw [pk_un hi]; exact hT i
          refine br_t h4 ⟨v1, nm_r (e' := upd tA (8 * s + j) v3) (by rw [zz_x, nI_clamp (by omega)]) ?_⟩
          refine xl_list _ _ (upd tA (8 * s + j) v3) sA xA w p c m r t o (rl_T (upd tA (8 * s + j) v3)) hm hr ho hT' (rl_A _) (fun sA' xA' w1 p1 c1 hL' => ?_)
          refine gd_s1 hm hs (br_t rfl (gd_j1 hr hj (br_t rfl (br_f h3 (br_t h4 ⟨v2, nm_r (e' := upd tA (8 * s + j) v3) (by rw [zz_y, nI_clamp (by omega)]) ⟨rfl, ?_⟩⟩)))))
          exact ⟨m, r, t, o, _, sA', xA', w1, p1, c1, fc, bA, oA, w', sI, vA, uA, nA, yA, hm, hr, ht, ho, hT', hB, hO, hL', rfl, rfl⟩
        · exact br_f h4 (gd_s1 hm hs (br_t rfl (gd_j1 hr hj (br_t rfl (br_f h3 (br_f h4 ⟨rfl, I'⟩))))))
theorem i_vc_get {k : Nat} {u : SX} {v : SY} (I : i_Rel k u v) (hk : k + 4 ≤ 2050) (v1 : Int32) (v2 : Int32) : wpX_get (fun r => wpY_get (fun r' => r' = r ∧ i_Rel (k + 4) u v) v v1 v2) u v1 v2 := by
  have I' := I
  obtain ⟨m, r, t, o, tA, sA, xA, w, p, c, fc, bA, oA, w', sI, vA, uA, nA, yA, hm, hr, ht, ho, hT, hB, hO, hL, rfl, rfl⟩ := I
  unfold wpX_get wpY_get
  rcases gd_ix v1 (n := m) (by omega) with h1 | ⟨s, hs, rfl⟩
  · exact gd_S0 h1 (br_t rfl (gd_s0 h1 (br_f (by decide) ⟨rfl, I'⟩)))
  · refine gd_S1 hm hs (br_f (by decide) ?_)
    rcases gd_ix v2 (n := r) (by omega) with h2 | ⟨j, hj, rfl⟩
    · exact gd_J0 h2 (br_t rfl (gd_s1 hm hs (br_t rfl (gd_j0 h2 (br_f (by decide) ⟨rfl, I'⟩)))))
    · have v1 : vp_in (nI s * 8 + nI j) 32 := by rw [zz_x]; exact vp_in_nI (by omega) (by decide)
      have v2 : vp_in (8 * nI s + nI j) 32 := by rw [zz_y]; exact vp_in_nI (by omega) (by decide)
      exact gd_J1 hr hj (br_f (by decide) ⟨v1, gd_s1 hm hs (br_t rfl (gd_j1 hr hj (br_t rfl ⟨v2, by rw [zz_x, zz_y], I'⟩)))⟩)
theorem rl_on {t j : Nat} {bA : Nat → Int32} (ht : t < 256) (hj : j < 8) (h : yb_B t bA) : t ||| 2 ^ j < 256 ∧ yb_B (t ||| 2 ^ j) (upd bA j 1) := by
  refine ⟨Nat.or_lt_two_pow (n := 8) ht (Nat.pow_lt_pow_right (by decide) hj), fun i hi => ?_⟩
  rw [Nat.testBit_or, Nat.testBit_two_pow]
  by_cases hij : i = j
  · rw [hij, pk_us, decide_eq_true rfl, Bool.or_true]; rfl
  · rw [pk_un hij, decide_eq_false (fun z => hij z.symm), Bool.or_false]; exact h i hi
theorem rl_off {t j : Nat} {bA : Nat → Int32} (ht : t < 256) (hj : j < 8) (h : yb_B t bA) : sg_one t (2 ^ j) < 256 ∧ yb_B (sg_one t (2 ^ j)) (upd bA j 0) := by
  refine ⟨Nat.lt_of_le_of_lt sg_ole ht, fun i hi => ?_⟩
  rw [sg_ob (by omega), Nat.testBit_two_pow]
  by_cases hij : i = j
  · rw [hij, pk_us, decide_eq_true rfl, Bool.not_true, Bool.and_false]; rfl
  · rw [pk_un hij, decide_eq_false (fun z => hij z.symm), Bool.not_false, Bool.and_true]; exact h i hi
theorem rl_wb1 {post : Int32 → Prop} {t j : Nat} (hj : j < 8) (hp : post (nI (t ||| 2 ^ j))) : wpX_withBit post (nI t) (nI j) 1 := by
  refine br_f (by decide) ?_
  rw [zz_sh (by omega), nx_or]; exact hp
theorem rl_wb0 {post : Int32 → Prop} {t j : Nat} (hj : j < 8) (hp : post (nI (sg_one t (2 ^ j)))) : wpX_withBit post (nI t) (nI j) 0 := by
  refine br_t rfl ?_
  rw [zz_sh (by omega), sg_o32]; exact hp
theorem i_vc_twoWay {k : Nat} {u : SX} {v : SY} (I : i_Rel k u v) (hk : k + 4 ≤ 2050) (v1 : Int32) (v2 : Int32) : wpX_twoWay (fun r u' => wpY_twoWay (fun r' v' => r' = r ∧ i_Rel (k + 4) u' v') v v1 v2) u v1 v2 := by
  have I' := I
  obtain ⟨m, r, t, o, tA, sA, xA, w, p, c, fc, bA, oA, w', sI, vA, uA, nA, yA, hm, hr, ht, ho, hT, hB, hO, hL, rfl, rfl⟩ := I
  unfold wpX_twoWay wpY_twoWay
  rcases gd_ix v1 (n := r) (by omega) with h1 | ⟨j, hj, rfl⟩
  · exact gd_J0 h1 (br_t rfl (gd_j0 h1 (br_f (by decide) ⟨rfl, I'⟩)))
  · refine gd_J1 hr hj (br_f (by decide) ?_)
    have vj : vp_in (nI j) 8 := vp_in_nI (by omega) (by decide)
    have cj : (nI j).toNatClampNeg = j := nI_clamp (by omega)
    have hX : ∀ (post : Int32 → SX → Prop) (b : Int32), (v2 = 0 → ∀ sA xA w p c : Nat → Int32, md_L m r (rl_T tA) (sg_one t (2 ^ j)) o (2 ^ r) sA xA → post b (nI m, nI r, nI (sg_one t (2 ^ j)), nI o, nI (md_c m r (rl_T tA) (sg_one t (2 ^ j)) o (2 ^ r)), tA, sA, xA, w, p, c)) → (¬ v2 = 0 → ∀ sA xA w p c : Nat → Int32, md_L m r (rl_T tA) (t ||| 2 ^ j) o (2 ^ r) sA xA → post b (nI m, nI r, nI (t ||| 2 ^ j), nI o, nI (md_c m r (rl_T tA) (t ||| 2 ^ j) o (2 ^ r)), tA, sA, xA, w, p, c)) →
        (v2 = 0 → wX_twoWay_34 post b 0 (nI j) (nI t) (nI m) (nI r) (nI t) (nI o) (nI (md_c m r (rl_T tA) t o (2 ^ r))) tA sA xA w p c) ∧ (¬ v2 = 0 → wX_twoWay_34 post b 1 (nI j) (nI t) (nI m) (nI r) (nI t) (nI o) (nI (md_c m r (rl_T tA) t o (2 ^ r))) tA sA xA w p c) := by
      intro post b h0 h1
      exact ⟨fun z => rl_wb0 (by omega) (xl_list _ _ tA sA xA w p c m r _ o (rl_T tA) hm hr ho hT (rl_A _) (h0 z)), fun z => rl_wb1 (by omega) (xl_list _ _ tA sA xA w p c m r _ o (rl_T tA) hm hr ho hT (rl_A _) (h1 z))⟩
    have b1 := rl_on ht (show j < 8 by omega) hB
    have b0 := rl_off ht (show j < 8 by omega) hB
    cases hb : t.testBit j
    · refine xw_b0 (by omega) (by omega) (by rw [hb]; decide) (hX _ _ (fun z sA' xA' w1 p1 c1 hL' => ?_) (fun z sA' xA' w1 p1 c1 hL' => ?_))
      · refine gd_j1 hr hj (br_t rfl ⟨vj, ?_⟩)
        rw [cj]
        refine br_t (yb_0 hB (by omega) hb) (br_t z ⟨vj, nm_r (e' := upd bA j 0) (by rw [cj, zz_nb0]) ⟨rfl, ?_⟩⟩)
        exact ⟨m, r, _, o, tA, sA', xA', w1, p1, c1, fc, _, oA, w', sI, vA, uA, nA, yA, hm, hr, b0.1, ho, hT, b0.2, hO, hL', rfl, rfl⟩
      · refine gd_j1 hr hj (br_t rfl ⟨vj, ?_⟩)
        rw [cj]
        refine br_t (yb_0 hB (by omega) hb) (br_f z ⟨vj, nm_r (e' := upd bA j 1) (by rw [cj, zz_nb1]) ⟨rfl, ?_⟩⟩)
        exact ⟨m, r, _, o, tA, sA', xA', w1, p1, c1, fc, _, oA, w', sI, vA, uA, nA, yA, hm, hr, b1.1, ho, hT, b1.2, hO, hL', rfl, rfl⟩
    · refine xw_b1 (by omega) (by omega) hb (hX _ _ (fun z sA' xA' w1 p1 c1 hL' => ?_) (fun z sA' xA' w1 p1 c1 hL' => ?_))
      · refine gd_j1 hr hj (br_t rfl ⟨vj, ?_⟩)
        rw [cj]
        refine br_f (yb_1 hB (by omega) hb) (br_t z ⟨vj, nm_r (e' := upd bA j 0) (by rw [cj, zz_nb0]) ⟨rfl, ?_⟩⟩)
        exact ⟨m, r, _, o, tA, sA', xA', w1, p1, c1, fc, _, oA, w', sI, vA, uA, nA, yA, hm, hr, b0.1, ho, hT, b0.2, hO, hL', rfl, rfl⟩
      · refine gd_j1 hr hj (br_t rfl ⟨vj, ?_⟩)
        rw [cj]
        refine br_f (yb_1 hB (by omega) hb) (br_f z ⟨vj, nm_r (e' := upd bA j 1) (by rw [cj, zz_nb1]) ⟨rfl, ?_⟩⟩)
        exact ⟨m, r, _, o, tA, sA', xA', w1, p1, c1, fc, _, oA, w', sI, vA, uA, nA, yA, hm, hr, b1.1, ho, hT, b1.2, hO, hL', rfl, rfl⟩
theorem i_vc_turn {k : Nat} {u : SX} {v : SY} (I : i_Rel k u v) (hk : k + 4 ≤ 2050) (v1 : Int32) (v2 : Int32) : wpX_turn (fun r u' => wpY_turn (fun r' v' => r' = r ∧ i_Rel (k + 4) u' v') v v1 v2) u v1 v2 := by
  have I' := I
  obtain ⟨m, r, t, o, tA, sA, xA, w, p, c, fc, bA, oA, w', sI, vA, uA, nA, yA, hm, hr, ht, ho, hT, hB, hO, hL, rfl, rfl⟩ := I
  unfold wpX_turn wpY_turn
  rcases gd_ix v1 (n := r) (by omega) with h1 | ⟨j, hj, rfl⟩
  · exact gd_J0 h1 (br_t rfl (gd_j0 h1 (br_f (by decide) ⟨rfl, I'⟩)))
  · refine gd_J1 hr hj (br_f (by decide) ?_)
    have vj : vp_in (nI j) 8 := vp_in_nI (by omega) (by decide)
    have cj : (nI j).toNatClampNeg = j := nI_clamp (by omega)
    have b1 := rl_on ho (show j < 8 by omega) hO
    have b0 := rl_off ho (show j < 8 by omega) hO
    have hX : ∀ (post : Int32 → SX → Prop) (b : Int32), (v2 = 0 → ∀ sA xA w p c : Nat → Int32, md_L m r (rl_T tA) t (o ||| 2 ^ j) (2 ^ r) sA xA → post b (nI m, nI r, nI t, nI (o ||| 2 ^ j), nI (md_c m r (rl_T tA) t (o ||| 2 ^ j) (2 ^ r)), tA, sA, xA, w, p, c)) → (¬ v2 = 0 → ∀ sA xA w p c : Nat → Int32, md_L m r (rl_T tA) t (sg_one o (2 ^ j)) (2 ^ r) sA xA → post b (nI m, nI r, nI t, nI (sg_one o (2 ^ j)), nI (md_c m r (rl_T tA) t (sg_one o (2 ^ j)) (2 ^ r)), tA, sA, xA, w, p, c)) →
        (v2 = 0 → wX_turn_36 post b 1 (nI j) (nI o) (nI m) (nI r) (nI t) (nI o) (nI (md_c m r (rl_T tA) t o (2 ^ r))) tA sA xA w p c) ∧ (¬ v2 = 0 → wX_turn_36 post b 0 (nI j) (nI o) (nI m) (nI r) (nI t) (nI o) (nI (md_c m r (rl_T tA) t o (2 ^ r))) tA sA xA w p c) := by
      intro post b h0 h1
      exact ⟨fun z => rl_wb1 (by omega) (xl_list _ _ tA sA xA w p c m r t _ (rl_T tA) hm hr b1.1 hT (rl_A _) (h0 z)), fun z => rl_wb0 (by omega) (xl_list _ _ tA sA xA w p c m r t _ (rl_T tA) hm hr b0.1 hT (rl_A _) (h1 z))⟩
    cases hb : o.testBit j
    · refine xw_b0 (by omega) (by omega) (by rw [hb]; decide) (nm_r (e' := 1) (by decide) (hX _ _ (fun z sA' xA' w1 p1 c1 hL' => ?_) (fun z sA' xA' w1 p1 c1 hL' => ?_)))
      · refine gd_j1 hr hj (br_t rfl ⟨vj, ?_⟩)
        rw [cj]
        refine br_t (yb_0 hO (by omega) hb) (br_t z ⟨vj, nm_r (e' := upd oA j 1) (by rw [cj, zz_nb1]) ⟨rfl, ?_⟩⟩)
        exact ⟨m, r, t, _, tA, sA', xA', w1, p1, c1, fc, bA, _, w', sI, vA, uA, nA, yA, hm, hr, ht, b1.1, hT, hB, b1.2, hL', rfl, rfl⟩
      · refine gd_j1 hr hj (br_t rfl ⟨vj, ?_⟩)
        rw [cj]
        refine br_t (yb_0 hO (by omega) hb) (br_f z ⟨vj, nm_r (e' := upd oA j 0) (by rw [cj, zz_nb0]) ⟨rfl, ?_⟩⟩)
        exact ⟨m, r, t, _, tA, sA', xA', w1, p1, c1, fc, bA, _, w', sI, vA, uA, nA, yA, hm, hr, ht, b0.1, hT, hB, b0.2, hL', rfl, rfl⟩
    · refine xw_b1 (by omega) (by omega) hb (nm_r (e' := 0) (by decide) (hX _ _ (fun z sA' xA' w1 p1 c1 hL' => ?_) (fun z sA' xA' w1 p1 c1 hL' => ?_)))
      · refine gd_j1 hr hj (br_t rfl ⟨vj, ?_⟩)
        rw [cj]
        refine br_f (yb_1 hO (by omega) hb) (br_t z ⟨vj, nm_r (e' := upd oA j 1) (by rw [cj, zz_nb1]) ⟨rfl, ?_⟩⟩)
        exact ⟨m, r, t, _, tA, sA', xA', w1, p1, c1, fc, bA, _, w', sI, vA, uA, nA, yA, hm, hr, ht, b1.1, hT, hB, b1.2, hL', rfl, rfl⟩
      · refine gd_j1 hr hj (br_t rfl ⟨vj, ?_⟩)
        rw [cj]
        refine br_f (yb_1 hO (by omega) hb) (br_f z ⟨vj, nm_r (e' := upd oA j 0) (by rw [cj, zz_nb0]) ⟨rfl, ?_⟩⟩)
        exact ⟨m, r, t, _, tA, sA', xA', w1, p1, c1, fc, bA, _, w', sI, vA, uA, nA, yA, hm, hr, ht, b0.1, hT, hB, b0.2, hL', rfl, rfl⟩
end
section
/-! the questions that read the list -/
def rl_S (sA : Nat → Int32) (i : Nat) : Nat := (sA i).toNatClampNeg
def rl_X (cnt : Nat) (sA xA : Nat → Int32) : Prop := cnt < 256 ∧ ∀ i, i < cnt → rl_S sA i < 256 ∧ sA i = nI (rl_S sA i) ∧ ∀ j, j < 8 → (rl_T xA (8 * i + j)).natAbs ≤ 1944 ∧ xA (8 * i + j) = zz_i (rl_T xA (8 * i + j))
def rl_Y (cnt t : Nat) (sA xA uA nA yA : Nat → Int32) : Prop := ∀ i, i < cnt → uA i = nI (rl_S sA i) ∧ (nA i = 0 ↔ sg_one (rl_S sA i) t ≠ 0) ∧ ∀ j, j < 8 → yA (8 * i + j) = zz_i (rl_T xA (8 * i + j))
theorem rl_qx {m r t o : Nat} {T : Nat → Int} {sA xA : Nat → Int32} (hm : m ≤ 4) (hr : r ≤ 8) (hT : ∀ i, (T i).natAbs ≤ 3) (hL : md_L m r T t o (2 ^ r) sA xA) : rl_X (md_c m r T t o (2 ^ r)) sA xA := by
  have h256 := md_p8 hr
  refine ⟨Nat.lt_of_lt_of_le (md_cb _ (Nat.two_pow_pos r)) h256, fun i hi => ?_⟩
  obtain ⟨S, hS, hg, rfl⟩ := md_ce _ hi
  obtain ⟨l1, l2⟩ := hL S hS hg
  have e : rl_S sA (md_c m r T t o S) = S := by unfold rl_S; rw [l1]; exact nI_clamp (by omega)
  rw [e]
  refine ⟨by omega, l1, fun j hj => ?_⟩
  have hb := md_xb (t := t) hm hT hg.2.2.2.1 hj
  have e2 : rl_T xA (8 * md_c m r T t o S + j) = md_x m S T t j := by unfold rl_T; rw [l2 j hj]; exact zz_it (by omega)
  rw [e2]
  exact ⟨hb, l2 j hj⟩
theorem rl_qy {m r t o : Nat} {T : Nat → Int} {sA xA uA nA yA : Nat → Int32} (hm : m ≤ 4) (hr : r ≤ 8) (hT : ∀ i, (T i).natAbs ≤ 3) (hL : md_L m r T t o (2 ^ r) sA xA) (hM : md_M m r T t o (2 ^ r) uA nA yA) : rl_Y (md_c m r T t o (2 ^ r)) t sA xA uA nA yA := by
  have h256 := md_p8 hr
  intro i hi
  obtain ⟨S, hS, hg, rfl⟩ := md_ce _ hi
  obtain ⟨l1, l2⟩ := hL S hS hg
  obtain ⟨k1, k2, k3⟩ := hM S hS hg
  have e : rl_S sA (md_c m r T t o S) = S := by unfold rl_S; rw [l1]; exact nI_clamp (by omega)
  rw [e]
  refine ⟨k1, k2, fun j hj => ?_⟩
  have hb := md_xb (t := t) hm hT hg.2.2.2.1 hj
  have e2 : rl_T xA (8 * md_c m r T t o S + j) = md_x m S T t j := by unfold rl_T; rw [l2 j hj]; exact zz_it (by omega)
  rw [e2]
  exact k3 j hj
theorem rl_open {u : SX} {v : SY} (I : rl_R u v) : ∃ (m r t o cnt : Nat) (tA sA xA w p c : Nat → Int32) (fc : Int32) (bA oA : Nat → Int32) (w' : Nat → Int64) (sI : Nat → Int32) (vA : Nat → Int64) (uA nA yA : Nat → Int32), m ≤ 4 ∧ r ≤ 8 ∧ rl_X cnt sA xA ∧ u = (nI m, nI r, nI t, nI o, nI cnt, tA, sA, xA, w, p, c) ∧ v = (nI m, nI r, fc, tA, bA, oA, w', sI, vA, uA, nA, yA) ∧
    ∀ post : SY → Prop, (∀ (w' : Nat → Int64) (sI : Nat → Int32) (vA : Nat → Int64) (uA nA yA : Nat → Int32), rl_Y cnt t sA xA uA nA yA → rl_R u (nI m, nI r, nI cnt, tA, bA, oA, w', sI, vA, uA, nA, yA) → post (nI m, nI r, nI cnt, tA, bA, oA, w', sI, vA, uA, nA, yA)) → wpY_list post v := by
  obtain ⟨m, r, t, o, tA, sA, xA, w, p, c, fc, bA, oA, w', sI, vA, uA, nA, yA, hm, hr, ht, ho, hT, hB, hO, hL, rfl, rfl⟩ := I
  refine ⟨m, r, t, o, md_c m r (rl_T tA) t o (2 ^ r), tA, sA, xA, w, p, c, fc, bA, oA, w', sI, vA, uA, nA, yA, hm, hr, rl_qx hm hr hT hL, rfl, rfl, fun post hp => ?_⟩
  refine yl_list post fc tA bA oA w' sI vA uA nA yA m r t o (rl_T tA) hm hr hT (rl_A tA) hB hO (fun w1 s1 v1 u1 n1 y1 hM => hp w1 s1 v1 u1 n1 y1 (rl_qy hm hr hT hL hM) ?_)
  exact ⟨m, r, t, o, tA, sA, xA, w, p, c, _, bA, oA, w1, s1, v1, u1, n1, y1, hm, hr, ht, ho, hT, hB, hO, hL, rfl, rfl⟩
theorem i_vc_modes {k : Nat} {u : SX} {v : SY} (I : i_Rel k u v) (hk : k + 4 ≤ 2050) : wpX_modes (fun r => wpY_modes (fun r' v' => r' = r ∧ i_Rel (k + 4) u v') v) u := by
  obtain ⟨m, r, t, o, cnt, tA, sA, xA, w, p, c, fc, bA, oA, w', sI, vA, uA, nA, yA, hm, hr, hX, rfl, rfl, hY⟩ := rl_open I
  have hc := hX.1
  unfold wpX_modes wpY_modes
  exact hY _ (fun w1 s1 a1 u1 n1 y1 hQ hR => ⟨rfl, hR⟩)
theorem i_vc_support {k : Nat} {u : SX} {v : SY} (I : i_Rel k u v) (hk : k + 4 ≤ 2050) (v1 : Int32) : wpX_support (fun r => wpY_support (fun r' v' => r' = r ∧ i_Rel (k + 4) u v') v v1) u v1 := by
  obtain ⟨m, r, t, o, cnt, tA, sA, xA, w, p, c, fc, bA, oA, w', sI, vA, uA, nA, yA, hm, hr, hX, rfl, rfl, hY⟩ := rl_open I
  have hc := hX.1
  unfold wpX_support wpY_support
  rcases gd_ix v1 (n := cnt) (by omega) with h1 | ⟨i, hi, rfl⟩
  · refine gd_M0 h1 (br_t rfl (hY _ (fun w1 s1 a1 u1 n1 y1 hQ hR => ?_)))
    by_cases h0 : v1 < 0
    · exact br_t h0 ⟨rfl, hR⟩
    · exact br_f h0 (br_f (Int32.not_lt.mpr (h1.resolve_left h0)) ⟨rfl, hR⟩)
  · refine gd_M1 hc hi (br_f (by decide) ⟨vp_in_nI (by omega) (by decide), hY _ (fun w1 s1 a1 u1 n1 y1 hQ hR => ?_)⟩)
    refine br_f (nI_pos (by omega)) (br_t (nI_lt hi (by omega)) ⟨vp_in_nI (by omega) (by decide), ?_, hR⟩)
    rw [nI_clamp (by omega), (hQ i hi).1]
    exact (hX.2 i hi).2.1.symm
theorem i_vc_flux {k : Nat} {u : SX} {v : SY} (I : i_Rel k u v) (hk : k + 4 ≤ 2050) (v1 : Int32) (v2 : Int32) : wpX_flux (fun r => wpY_flux (fun r' v' => r' = r ∧ i_Rel (k + 4) u v') v v1 v2) u v1 v2 := by
  obtain ⟨m, r, t, o, cnt, tA, sA, xA, w, p, c, fc, bA, oA, w', sI, vA, uA, nA, yA, hm, hr, hX, rfl, rfl, hY⟩ := rl_open I
  have hc := hX.1
  unfold wpX_flux wpY_flux
  rcases gd_ix v1 (n := cnt) (by omega) with h1 | ⟨i, hi, rfl⟩
  · refine gd_M0 h1 (br_t rfl (hY _ (fun w1 s1 a1 u1 n1 y1 hQ hR => ?_)))
    by_cases h0 : v1 < 0
    · exact br_t h0 ⟨rfl, hR⟩
    · exact br_f h0 (br_t (h1.resolve_left h0) ⟨rfl, hR⟩)
  · refine gd_M1 hc hi (br_f (by decide) ?_)
    rcases gd_ix v2 (n := r) (by omega) with h2 | ⟨j, hj, rfl⟩
    · refine gd_J0 h2 (br_t rfl (hY _ (fun w1 s1 a1 u1 n1 y1 hQ hR => ?_)))
      exact br_f (nI_pos (by omega)) (br_f (nI_ge hi (by omega)) (gd_j0 h2 (br_f (by decide) ⟨rfl, hR⟩)))
    · have a1 : vp_in (nI i * 8 + nI j) 2048 := by rw [zz_x]; exact vp_in_nI (by omega) (by decide)
      have a2 : vp_in (8 * nI i + nI j) 2048 := by rw [zz_y]; exact vp_in_nI (by omega) (by decide)
      refine gd_J1 hr hj (br_f (by decide) ⟨a1, hY _ (fun w1 s1 a1 u1 n1 y1 hQ hR => ?_)⟩)
      refine br_f (nI_pos (by omega)) (br_f (nI_ge hi (by omega)) (gd_j1 hr hj (br_t rfl ⟨a2, ?_, hR⟩)))
      rw [zz_x, zz_y, nI_clamp (by omega), (hQ i hi).2.2 j (by omega)]
      exact ((hX.2 i hi).2.2 j (by omega)).2.symm
theorem gd_T1 {post : Int32 → Prop} {S t : Nat} {fm fr fo fc : Int32} {tA sA xA w p c : Nat → Int32} (h : sg_one S t = 0) (hp : post 1) : wpX_isAllTwoWay post (fm, fr, nI t, fo, fc, tA, sA, xA, w, p, c) (nI S) := by
  refine br_t ?_ hp
  rw [sg_o32, h]; rfl
theorem gd_T0 {post : Int32 → Prop} {S t : Nat} {fm fr fo fc : Int32} {tA sA xA w p c : Nat → Int32} (hS : S < 256) (h : sg_one S t ≠ 0) (hp : post 0) : wpX_isAllTwoWay post (fm, fr, nI t, fo, fc, tA, sA, xA, w, p, c) (nI S) := by
  refine br_f ?_ hp
  have := @sg_ole S t
  rw [sg_o32]; exact nI_ne0 (by omega) (by omega)
theorem i_vc_turnable {k : Nat} {u : SX} {v : SY} (I : i_Rel k u v) (hk : k + 4 ≤ 2050) (v1 : Int32) : wpX_turnable (fun r => wpY_turnable (fun r' v' => r' = r ∧ i_Rel (k + 4) u v') v v1) u v1 := by
  obtain ⟨m, r, t, o, cnt, tA, sA, xA, w, p, c, fc, bA, oA, w', sI, vA, uA, nA, yA, hm, hr, hX, rfl, rfl, hY⟩ := rl_open I
  have hc := hX.1
  unfold wpX_turnable wpY_turnable
  rcases gd_ix v1 (n := cnt) (by omega) with h1 | ⟨i, hi, rfl⟩
  · refine gd_M0 h1 (br_t rfl (hY _ (fun w1 s1 a1 u1 n1 y1 hQ hR => ?_)))
    by_cases h0 : v1 < 0
    · exact br_t h0 ⟨rfl, hR⟩
    · exact br_f h0 (br_f (Int32.not_lt.mpr (h1.resolve_left h0)) ⟨rfl, hR⟩)
  · refine gd_M1 hc hi (br_f (by decide) ⟨vp_in_nI (by omega) (by decide), ?_⟩)
    obtain ⟨hs, es, _⟩ := hX.2 i hi
    rw [nI_clamp (by omega), es]
    by_cases ht : sg_one (rl_S sA i) t = 0
    · refine gd_T1 ht (br_f (by decide) (hY _ (fun w1 s1 a1 u1 n1 y1 hQ hR => ?_)))
      refine br_f (nI_pos (by omega)) (br_t (nI_lt hi (by omega)) ⟨vp_in_nI (by omega) (by decide), ?_⟩)
      exact br_f (fun z => (hQ i hi).2.1.mp z ht) ⟨rfl, hR⟩
    · refine gd_T0 hs ht (br_t rfl (hY _ (fun w1 s1 a1 u1 n1 y1 hQ hR => ?_)))
      refine br_f (nI_pos (by omega)) (br_t (nI_lt hi (by omega)) ⟨vp_in_nI (by omega) (by decide), ?_⟩)
      exact br_t ((hQ i hi).2.1.mpr ht) ⟨rfl, hR⟩
section
variable (m r t o cnt : Nat) (tA sA xA w p c : Nat → Int32) (bA oA : Nat → Int32)
theorem ql_find (hX : rl_X cnt sA xA) (x1 : Int32) : ∀ e i, i + e = cnt → ∃ a : Int32, (∀ post : Int32 → Prop, post a → wX_find_2 post x1 (nI m) (nI r) (nI t) (nI o) (nI cnt) tA sA xA w p c (e + 1) (nI i)) ∧
    (∀ (w' : Nat → Int64) (sI : Nat → Int32) (vA : Nat → Int64) (uA nA yA : Nat → Int32), rl_Y cnt t sA xA uA nA yA → ∀ post : Int32 → SY → Prop, post a (nI m, nI r, nI cnt, tA, bA, oA, w', sI, vA, uA, nA, yA) → wY_find_6 post x1 (nI m) (nI r) (nI cnt) tA bA oA w' sI vA uA nA yA (e + 1) (nI i)) := by
  have hc := hX.1
  intro e
  induction e with
  | zero =>
    intro i hi
    have h : nI cnt ≤ nI i := nI_le (by omega) (by omega)
    exact ⟨-1, fun post hp => br_t h hp, fun w' sI vA uA nA yA hQ post hp => br_t h hp⟩
  | succ e ih =>
    intro i hi
    have h : ¬ nI cnt ≤ nI i := nI_ge (by omega) (by omega)
    have h2 : ¬ (256 : Int32) ≤ nI i := nI_ge (b := 256) (by omega) (by decide)
    have hv : vp_in (nI i) 256 := vp_in_nI (by omega) (by decide)
    have ci : (nI i).toNatClampNeg = i := nI_clamp (by omega)
    obtain ⟨hs, es, _⟩ := hX.2 i (by omega)
    by_cases hx : nI (rl_S sA i) = x1
    · refine ⟨nI i, fun post hp => br_f h ⟨hv, ?_⟩, fun w' sI vA uA nA yA hQ post hp => br_f h (br_f h2 ⟨hv, ?_⟩)⟩
      · rw [ci, es]; exact br_t hx hp
      · rw [ci, (hQ i (by omega)).1]; exact br_t hx hp
    · obtain ⟨a, hX2, hY2⟩ := ih (i + 1) (by omega)
      refine ⟨a, fun post hp => br_f h ⟨hv, ?_⟩, fun w' sI vA uA nA yA hQ post hp => br_f h (br_f h2 ⟨hv, ?_⟩)⟩
      · rw [ci, es]; exact br_f hx (nm_r (nI_1 i) (hX2 post hp))
      · rw [ci, (hQ i (by omega)).1]; exact br_f hx (nm_r (nI_1 i) (hY2 w' sI vA uA nA yA hQ post hp))
theorem ql_without (hX : rl_X cnt sA xA) (j : Nat) (hj : j < 8) : ∀ e i (x : Int32), i + e = cnt → ∃ a : Int32, (∀ post : Int32 → Prop, post a → wX_without_14 post (nI j) (nI m) (nI r) (nI t) (nI o) (nI cnt) tA sA xA w p c (e + 1) x (nI i)) ∧
    (∀ (w' : Nat → Int64) (sI : Nat → Int32) (vA : Nat → Int64) (uA nA yA : Nat → Int32), rl_Y cnt t sA xA uA nA yA → ∀ post : Int32 → SY → Prop, post a (nI m, nI r, nI cnt, tA, bA, oA, w', sI, vA, uA, nA, yA) → wY_without_18 post (nI j) (nI m) (nI r) (nI cnt) tA bA oA w' sI vA uA nA yA (e + 1) x (nI i)) := by
  have hc := hX.1
  intro e
  induction e with
  | zero =>
    intro i x hi
    have h : nI cnt ≤ nI i := nI_le (by omega) (by omega)
    exact ⟨x, fun post hp => br_t h hp, fun w' sI vA uA nA yA hQ post hp => br_t h hp⟩
  | succ e ih =>
    intro i x hi
    have h : ¬ nI cnt ≤ nI i := nI_ge (by omega) (by omega)
    have h2 : ¬ (256 : Int32) ≤ nI i := nI_ge (b := 256) (by omega) (by decide)
    have hv : vp_in (nI i) 256 := vp_in_nI (by omega) (by decide)
    have ci : (nI i).toNatClampNeg = i := nI_clamp (by omega)
    obtain ⟨hs, es, _⟩ := hX.2 i (by omega)
    by_cases hb : (rl_S sA i).testBit j = true
    · obtain ⟨a, hX2, hY2⟩ := ih (i + 1) x (by omega)
      refine ⟨a, fun post hp => br_f h ⟨hv, ?_⟩, fun w' sI vA uA nA yA hQ post hp => br_f h (br_f h2 ⟨hv, ?_⟩)⟩
      · rw [ci, es]; exact xw_b1 (by omega) (by omega) hb (br_f (by decide) (nm_r (nI_1 i) (hX2 post hp)))
      · rw [ci, (hQ i (by omega)).1]; exact yw_i1 _ (by omega) (by omega) hb (br_f (by decide) (nm_r (nI_1 i) (hY2 w' sI vA uA nA yA hQ post hp)))
    · obtain ⟨a, hX2, hY2⟩ := ih (i + 1) (x + 1) (by omega)
      refine ⟨a, fun post hp => br_f h ⟨hv, ?_⟩, fun w' sI vA uA nA yA hQ post hp => br_f h (br_f h2 ⟨hv, ?_⟩)⟩
      · rw [ci, es]; exact xw_b0 (by omega) (by omega) hb (br_t rfl (nm_e (nm_r (nI_1 i) (hX2 post hp))))
      · rw [ci, (hQ i (by omega)).1]; exact yw_i0 _ (by omega) (by omega) hb (br_t rfl (nm_e (nm_r (nI_1 i) (hY2 w' sI vA uA nA yA hQ post hp))))
end
theorem i_vc_find {k : Nat} {u : SX} {v : SY} (I : i_Rel k u v) (hk : k + 4 ≤ 2050) (v1 : Int32) : wpX_find (fun r => wpY_find (fun r' v' => r' = r ∧ i_Rel (k + 4) u v') v v1) u v1 := by
  obtain ⟨m, r, t, o, cnt, tA, sA, xA, w, p, c, fc, bA, oA, w', sI, vA, uA, nA, yA, hm, hr, hX, rfl, rfl, hY⟩ := rl_open I
  have hc := hX.1
  unfold wpX_find wpY_find
  obtain ⟨a, h1, h2⟩ := ql_find m r t o cnt tA sA xA w p c bA oA hX v1 cnt 0 (by omega)
  exact ⟨cnt + 1, h1 _ (hY _ (fun w1 s1 a1 u1 n1 y1 hQ hR => ⟨cnt + 1, h2 w1 s1 a1 u1 n1 y1 hQ _ ⟨rfl, hR⟩⟩))⟩
theorem i_vc_without {k : Nat} {u : SX} {v : SY} (I : i_Rel k u v) (hk : k + 4 ≤ 2050) (v1 : Int32) : wpX_without (fun r => wpY_without (fun r' v' => r' = r ∧ i_Rel (k + 4) u v') v v1) u v1 := by
  have I' := I
  obtain ⟨m, r, t, o, cnt, tA, sA, xA, w, p, c, fc, bA, oA, w', sI, vA, uA, nA, yA, hm, hr, hX, rfl, rfl, hY⟩ := rl_open I
  have hc := hX.1
  unfold wpX_without wpY_without
  rcases gd_ix v1 (n := r) (by omega) with h1 | ⟨j, hj, rfl⟩
  · exact gd_J0 h1 (br_t rfl (gd_j0 h1 (br_f (by decide) ⟨rfl, I'⟩)))
  · obtain ⟨a, h1, h2⟩ := ql_without m r t o cnt tA sA xA w p c bA oA hX j (by omega) cnt 0 0 (by omega)
    exact gd_J1 hr hj (br_f (by decide) ⟨cnt + 1, h1 _ (gd_j1 hr hj (br_t rfl (hY _ (fun w1 s1 a1 u1 n1 y1 hQ hR => ⟨cnt + 1, h2 w1 s1 a1 u1 n1 y1 hQ _ ⟨rfl, hR⟩⟩))))⟩)
end
section
/-! carries, coupled, cutSize -/
section
variable (m r t o cnt : Nat) (tA sA xA w p c : Nat → Int32) (bA oA : Nat → Int32)
/-- whether mode i runs at j in the direction f -/
def ql_r (t i j : Nat) (sA xA : Nat → Int32) (f : Int32) : Prop := rl_T xA (8 * i + j) ≠ 0 ∧ ((rl_T xA (8 * i + j) ≤ 0 ∧ f = 0) ∨ (¬ rl_T xA (8 * i + j) ≤ 0 ∧ f = 1) ∨ sg_one (rl_S sA i) t = 0)
theorem ql_runs (hX : rl_X cnt sA xA) {i j : Nat} (hi : i < cnt) (hj : j < 8) (f : Int32) (hf : f = 0 ∨ f = 1) (post : Int32 → Prop) (h1 : ql_r t i j sA xA f → post 1) (h0 : ¬ ql_r t i j sA xA f → post 0) : wpX_runs post (nI m, nI r, nI t, nI o, nI cnt, tA, sA, xA, w, p, c) (nI i) (nI j) f := by
  have hc := hX.1
  obtain ⟨hs, es, hx⟩ := hX.2 i hi
  obtain ⟨zb, ez⟩ := hx j hj
  have c1 : (nI i * 8 + nI j).toNatClampNeg = 8 * i + j := by rw [zz_x, nI_clamp (by omega)]
  have v1 : vp_in (nI i * 8 + nI j) 2048 := by rw [zz_x]; exact vp_in_nI (by omega) (by decide)
  have hv : vp_in (nI i) 256 := vp_in_nI (by omega) (by decide)
  have ci : (nI i).toNatClampNeg = i := nI_clamp (by omega)
  have e0 := zz_ie0 (a := rl_T xA (8 * i + j)) (by omega)
  have el : zz_i (rl_T xA (8 * i + j)) ≤ 0 ↔ rl_T xA (8 * i + j) ≤ 0 := zz_ile (b := 0) (by omega) (by decide)
  refine ⟨v1, nm_r (e' := zz_i (rl_T xA (8 * i + j))) (by rw [c1]; exact ez) ?_⟩
  by_cases hz : rl_T xA (8 * i + j) = 0
  · exact br_t (e0.mpr hz) (h0 (fun q => q.1 hz))
  · refine br_f (fun q => hz (e0.mp q)) ?_
    have htw : ∀ g : Int32, (g = f → post 1) → ((¬ g = f) → ¬ ql_r t i j sA xA f ∨ sg_one (rl_S sA i) t = 0) → wX_runs_30 post (nI i) f g (nI m) (nI r) (nI t) (nI o) (nI cnt) tA sA xA w p c := by
      intro g hg hng
      by_cases hgf : g = f
      · exact br_t hgf (hg hgf)
      · refine br_f hgf ⟨hv, ?_⟩
        rw [ci, es]
        by_cases ht : sg_one (rl_S sA i) t = 0
        · exact gd_T1 ht (br_f (by decide) (h1 ⟨hz, Or.inr (Or.inr ht)⟩))
        · exact gd_T0 hs ht (br_t rfl (h0 ((hng hgf).resolve_right ht)))
    by_cases hle : rl_T xA (8 * i + j) ≤ 0
    · refine br_t (el.mpr hle) (htw 0 (fun q => h1 ⟨hz, Or.inl ⟨hle, q.symm⟩⟩) (fun q => ?_))
      by_cases ht : sg_one (rl_S sA i) t = 0
      · exact Or.inr ht
      · refine Or.inl (fun y => ?_)
        rcases y.2 with y | y | y
        · exact q y.2.symm
        · exact y.1 hle
        · exact ht y
    · refine br_f (fun q => hle (el.mp q)) (htw 1 (fun q => h1 ⟨hz, Or.inr (Or.inl ⟨hle, q.symm⟩)⟩) (fun q => ?_))
      by_cases ht : sg_one (rl_S sA i) t = 0
      · exact Or.inr ht
      · refine Or.inl (fun y => ?_)
        rcases y.2 with y | y | y
        · exact hle y.1
        · exact q y.2.symm
        · exact ht y
theorem ql_carries (hX : rl_X cnt sA xA) (j : Nat) (hj : j < 8) (x2 : Int32) : ∀ e i, i + e = cnt → ∃ a : Int32, (∀ post : Int32 → Prop, post a → wX_carries_19 post (nI j) x2 (nI m) (nI r) (nI t) (nI o) (nI cnt) tA sA xA w p c (e + 1) (nI i)) ∧
    (∀ (w' : Nat → Int64) (sI : Nat → Int32) (vA : Nat → Int64) (uA nA yA : Nat → Int32), rl_Y cnt t sA xA uA nA yA → ∀ post : Int32 → SY → Prop, post a (nI m, nI r, nI cnt, tA, bA, oA, w', sI, vA, uA, nA, yA) → wY_carries_23 post (nI j) x2 (nI m) (nI r) (nI cnt) tA bA oA w' sI vA uA nA yA (e + 1) (nI i)) := by
  have hc := hX.1
  obtain ⟨f, hf, hfx, hfy⟩ : ∃ f : Int32, (f = 0 ∨ f = 1) ∧ (∀ (post : Int32 → Prop) (J : Int32 → Prop) (x3 : Int32), wpX_runs (fun r_17 => (((r_17 = 0 → (∀ y : Int32, y = x3 + 1 → J y)) ∧ (¬ r_17 = 0 → (post 1))))) (nI m, nI r, nI t, nI o, nI cnt, tA, sA, xA, w, p, c) x3 (nI j) f → (x2 ≤ 0 → wX_carries_39 post J (nI j) x2 x3 0 (nI j) x3 (nI m) (nI r) (nI t) (nI o) (nI cnt) tA sA xA w p c) ∧ (¬ x2 ≤ 0 → wX_carries_39 post J (nI j) x2 x3 1 (nI j) x3 (nI m) (nI r) (nI t) (nI o) (nI cnt) tA sA xA w p c)) ∧
      (∀ (post : Int32 → SY → Prop) (J : Int32 → Prop) (x3 z0 : Int32) (w' : Nat → Int64) (sI : Nat → Int32) (vA : Nat → Int64) (uA nA yA : Nat → Int32), wY_carries_84 post J (nI j) x2 x3 f z0 (nI m) (nI r) (nI cnt) tA bA oA w' sI vA uA nA yA → wY_carries_75 post J (nI j) x2 x3 z0 (nI m) (nI r) (nI cnt) tA bA oA w' sI vA uA nA yA) := by
    by_cases hx : x2 ≤ 0
    · exact ⟨0, Or.inl rfl, fun post J x3 h => br_t hx h, fun post J x3 z0 w' sI vA uA nA yA h => br_t hx h⟩
    · exact ⟨1, Or.inr rfl, fun post J x3 h => br_f hx h, fun post J x3 z0 w' sI vA uA nA yA h => br_f hx h⟩
  intro e
  induction e with
  | zero =>
    intro i hi
    have h : nI cnt ≤ nI i := nI_le (by omega) (by omega)
    exact ⟨0, fun post hp => br_t h hp, fun w' sI vA uA nA yA hQ post hp => br_t h hp⟩
  | succ e ih =>
    intro i hi
    have hic : i < cnt := by omega
    have h : ¬ nI cnt ≤ nI i := nI_ge (by omega) (by omega)
    have h2 : ¬ (256 : Int32) ≤ nI i := nI_ge (b := 256) (by omega) (by decide)
    have hv : vp_in (nI i) 256 := vp_in_nI (by omega) (by decide)
    have ci : (nI i).toNatClampNeg = i := nI_clamp (by omega)
    have c1 : (8 * nI i + nI j).toNatClampNeg = 8 * i + j := by rw [zz_y, nI_clamp (by omega)]
    have v1 : vp_in (8 * nI i + nI j) 2048 := by rw [zz_y]; exact vp_in_nI (by omega) (by decide)
    obtain ⟨hs, es, hx⟩ := hX.2 i hic
    obtain ⟨zb, ez⟩ := hx j hj
    have e0 := zz_ie0 (a := rl_T xA (8 * i + j)) (by omega)
    have el : zz_i (rl_T xA (8 * i + j)) ≤ 0 ↔ rl_T xA (8 * i + j) ≤ 0 := zz_ile (b := 0) (by omega) (by decide)
    obtain ⟨a, hX2, hY2⟩ := ih (i + 1) (by omega)
    by_cases hq : ql_r t i j sA xA f
    · refine ⟨1, fun post hp => br_f h (hfx _ _ _ (ql_runs m r t o cnt tA sA xA w p c hX hic hj f hf _ (fun _ => br_f (by decide) hp) (fun z => absurd hq z))), fun w' sI vA uA nA yA hQ post hp => br_f h (br_f h2 ⟨v1, nm_r (e' := zz_i (rl_T xA (8 * i + j))) (by rw [c1]; exact (hQ i hic).2.2 j hj) (br_f (fun q => hq.1 (e0.mp q)) ⟨hv, ?_⟩)⟩)⟩
      rw [ci]
      by_cases hn : nA i = 0
      · refine br_t hn ?_
        have hno := (hQ i hic).2.1.mp hn
        rcases hq.2 with y | y | y
        · exact br_t (el.mpr y.1) (hfy _ _ _ _ _ _ _ _ _ _ (br_t y.2.symm hp))
        · exact br_f (fun q => y.1 (el.mp q)) (hfy _ _ _ _ _ _ _ _ _ _ (br_t y.2.symm hp))
        · exact absurd y hno
      · exact br_f hn hp
    · refine ⟨a, fun post hp => br_f h (hfx _ _ _ (ql_runs m r t o cnt tA sA xA w p c hX hic hj f hf _ (fun z => absurd z hq) (fun _ => br_t rfl (nm_r (nI_1 i) (hX2 post hp))))), fun w' sI vA uA nA yA hQ post hp => br_f h (br_f h2 ⟨v1, nm_r (e' := zz_i (rl_T xA (8 * i + j))) (by rw [c1]; exact (hQ i hic).2.2 j hj) ?_⟩)⟩
      have hn1 := nm_r (P := fun y => wY_carries_23 post (nI j) x2 (nI m) (nI r) (nI cnt) tA bA oA w' sI vA uA nA yA (e + 1) y) (nI_1 i) (hY2 w' sI vA uA nA yA hQ post hp)
      by_cases hz : rl_T xA (8 * i + j) = 0
      · exact br_t (e0.mpr hz) hn1
      · refine br_f (fun q => hz (e0.mp q)) ⟨hv, ?_⟩
        rw [ci]
        by_cases hn : nA i = 0
        · refine br_t hn ?_
          by_cases hle : rl_T xA (8 * i + j) ≤ 0
          · exact br_t (el.mpr hle) (hfy _ _ _ _ _ _ _ _ _ _ (br_f (fun q => hq ⟨hz, Or.inl ⟨hle, q.symm⟩⟩) hn1))
          · exact br_f (fun q => hle (el.mp q)) (hfy _ _ _ _ _ _ _ _ _ _ (br_f (fun q => hq ⟨hz, Or.inr (Or.inl ⟨hle, q.symm⟩)⟩) hn1))
        · refine absurd ?_ hq
          refine ⟨hz, Or.inr (Or.inr ?_)⟩
          exact Classical.byContradiction (fun z => hn ((hQ i hic).2.1.mpr z))
/-- whether every mode through j meets the set C -/
def ql_k (cnt j C : Nat) (sA : Nat → Int32) (i0 : Nat) : Prop := ∀ i, i0 ≤ i → i < cnt → (rl_S sA i).testBit j = true → rl_S sA i &&& C ≠ 0
theorem ql_cut (hX : rl_X cnt sA xA) (j C : Nat) (hj : j < 8) (post : Int32 → Prop) : ∀ e i, i + e = cnt → (ql_k cnt j C sA i → post 1) → (¬ ql_k cnt j C sA i → post 0) → wX_isCutOff_2 post (nI j) (nI C) (nI m) (nI r) (nI t) (nI o) (nI cnt) tA sA xA w p c (e + 1) (nI i) := by
  have hc := hX.1
  intro e
  induction e with
  | zero =>
    intro i hi h1 h0
    exact br_t (nI_le (by omega) (by omega)) (h1 (fun i' h1 h2 => by omega))
  | succ e ih =>
    intro i hi h1 h0
    obtain ⟨hs, es, _⟩ := hX.2 i (by omega)
    have hv : vp_in (nI i) 256 := vp_in_nI (by omega) (by decide)
    have ci : (nI i).toNatClampNeg = i := nI_clamp (by omega)
    have hand : rl_S sA i &&& C ≤ rl_S sA i := Nat.and_le_left
    have hand0 : nI (rl_S sA i &&& C) = 0 ↔ rl_S sA i &&& C = 0 := nI_eq (b := 0) (by omega) (by decide)
    have hnext : ((rl_S sA i).testBit j = true → rl_S sA i &&& C ≠ 0) → wX_isCutOff_2 post (nI j) (nI C) (nI m) (nI r) (nI t) (nI o) (nI cnt) tA sA xA w p c (e + 1) (nI (i + 1)) := by
      intro hq
      refine ih (i + 1) (by omega) (fun z => h1 (fun i' h1 h2 => ?_)) (fun z => h0 (fun y => z (fun i' h1 h2 => y i' (by omega) h2)))
      by_cases hii : i' = i
      · rw [hii]; exact hq
      · exact z i' (by omega) h2
    refine br_f (nI_ge (by omega) (by omega)) ⟨hv, ?_⟩
    rw [ci, es]
    by_cases hb : (rl_S sA i).testBit j = true
    · refine xw_b1 (by omega) (by omega) hb (br_t rfl ⟨hv, ?_⟩)
      rw [nx_and]
      by_cases hz : rl_S sA i &&& C = 0
      · exact br_t (hand0.mpr hz) (h0 (fun y => y i (by omega) (by omega) hb hz))
      · exact br_f (fun q => hz (hand0.mp q)) (nm_r (nI_1 i) (hnext (fun _ => hz)))
    · exact xw_b0 (by omega) (by omega) hb (br_f (by decide) (nm_r (nI_1 i) (hnext (fun z => absurd z hb))))
theorem ql_sil (hX : rl_X cnt sA xA) (j C : Nat) (hj : j < 8) (fm fr : Int32) (w' : Nat → Int64) (sI : Nat → Int32) (vA : Nat → Int64) (uA nA yA : Nat → Int32) (hQ : rl_Y cnt t sA xA uA nA yA) (post : Int32 → Prop) : ∀ e i, i + e = cnt → (ql_k cnt j C sA i → post 1) → (¬ ql_k cnt j C sA i → post 0) → wY_silences_2 post (nI C) (nI j) fm fr (nI cnt) tA bA oA w' sI vA uA nA yA (e + 1) (nI i) := by
  have hc := hX.1
  intro e
  induction e with
  | zero =>
    intro i hi h1 h0
    exact br_t (nI_le (by omega) (by omega)) (h1 (fun i' h1 h2 => by omega))
  | succ e ih =>
    intro i hi h1 h0
    obtain ⟨hs, es, _⟩ := hX.2 i (by omega)
    have eu := (hQ i (by omega)).1
    have hv : vp_in (nI i) 256 := vp_in_nI (by omega) (by decide)
    have ci : (nI i).toNatClampNeg = i := nI_clamp (by omega)
    have hand : rl_S sA i &&& C ≤ rl_S sA i := Nat.and_le_left
    have hand0 : nI (rl_S sA i &&& C) = 0 ↔ rl_S sA i &&& C = 0 := nI_eq (b := 0) (by omega) (by decide)
    have hnext : ((rl_S sA i).testBit j = true → rl_S sA i &&& C ≠ 0) → wY_silences_2 post (nI C) (nI j) fm fr (nI cnt) tA bA oA w' sI vA uA nA yA (e + 1) (nI (i + 1)) := by
      intro hq
      refine ih (i + 1) (by omega) (fun z => h1 (fun i' h1 h2 => ?_)) (fun z => h0 (fun y => z (fun i' h1 h2 => y i' (by omega) h2)))
      by_cases hii : i' = i
      · rw [hii]; exact hq
      · exact z i' (by omega) h2
    refine br_f (nI_ge (by omega) (by omega)) (br_f (nI_ge (b := 256) (by omega) (by decide)) ⟨hv, ?_⟩)
    rw [ci, eu]
    by_cases hb : (rl_S sA i).testBit j = true
    · refine yw_i1 _ (by omega) (by omega) hb (br_f (by decide) ⟨hv, ?_⟩)
      rw [nx_and]
      by_cases hz : rl_S sA i &&& C = 0
      · exact br_t (hand0.mpr hz) (h0 (fun y => y i (by omega) (by omega) hb hz))
      · exact br_f (fun q => hz (hand0.mp q)) (nm_r (nI_1 i) (hnext (fun _ => hz)))
    · exact yw_i0 _ (by omega) (by omega) hb (br_t rfl (nm_r (nI_1 i) (hnext (fun z => absurd z hb))))
theorem ql_cp (hX : rl_X cnt sA xA) (j k : Nat) (hj : j < 8) (hk : k < 8) (fm fr : Int32) (w' : Nat → Int64) (sI : Nat → Int32) (vA : Nat → Int64) (uA nA yA : Nat → Int32) (hQ : rl_Y cnt t sA xA uA nA yA) (post : Int32 → SY → Prop)
    (hp : ∀ x3 x4 : Int32, (x3 = 0 ↔ ∀ i, i < cnt → ¬ (rl_S sA i).testBit j = true) → (x4 = 0 ↔ ¬ ∀ i, i < cnt → (rl_S sA i).testBit j = true → (rl_S sA i).testBit k = true) → wY_coupled_88 post x3 x4 fm fr (nI cnt) tA bA oA w' sI vA uA nA yA) : ∀ e i (x3 x4 : Int32), i + e = cnt → (x3 = 0 ↔ ∀ i', i' < i → ¬ (rl_S sA i').testBit j = true) → (x4 = 0 ↔ ¬ ∀ i', i' < i → (rl_S sA i').testBit j = true → (rl_S sA i').testBit k = true) → wY_coupled_30 post (nI j) (nI k) fm fr (nI cnt) tA bA oA w' sI vA uA nA yA (e + 1) x3 x4 (nI i) := by
  have hc := hX.1
  intro e
  induction e with
  | zero =>
    intro i x3 x4 hi h3 h4
    have hic : i = cnt := by omega
    subst hic
    exact br_t (nI_le (by omega) (by omega)) (hp x3 x4 h3 h4)
  | succ e ih =>
    intro i x3 x4 hi h3 h4
    obtain ⟨hs, es, _⟩ := hX.2 i (by omega)
    have eu := (hQ i (by omega)).1
    have hv : vp_in (nI i) 256 := vp_in_nI (by omega) (by decide)
    have ci : (nI i).toNatClampNeg = i := nI_clamp (by omega)
    refine br_f (nI_ge (by omega) (by omega)) (br_f (nI_ge (b := 256) (by omega) (by decide)) ⟨hv, ?_⟩)
    rw [ci, eu]
    by_cases hb : (rl_S sA i).testBit j = true
    · refine yw_i1 _ (by omega) (by omega) hb (br_f (by decide) ⟨hv, ?_⟩)
      by_cases hbk : (rl_S sA i).testBit k = true
      · refine yw_i1 _ (by omega) (by omega) hbk (br_f (by decide) (nm_r (nI_1 i) (ih (i + 1) 1 x4 (by omega) ⟨fun z => absurd z (by decide), fun z => absurd hb (z i (by omega))⟩ ?_)))
        rw [h4]
        refine not_congr ⟨fun z i' hi' hb' => ?_, fun z i' hi' => z i' (by omega)⟩
        by_cases hii : i' = i
        · rw [hii]; exact hbk
        · exact z i' (by omega) hb'
      · exact yw_i0 _ (by omega) (by omega) hbk (br_t rfl (nm_r (nI_1 i) (ih (i + 1) 1 0 (by omega) ⟨fun z => absurd z (by decide), fun z => absurd hb (z i (by omega))⟩ ⟨fun _ z => hbk (z i (by omega) hb), fun _ => rfl⟩)))
    · refine yw_i0 _ (by omega) (by omega) hb (br_t rfl (nm_r (nI_1 i) (ih (i + 1) x3 x4 (by omega) ?_ ?_)))
      · rw [h3]
        refine ⟨fun z i' hi' => ?_, fun z i' hi' => z i' (by omega)⟩
        by_cases hii : i' = i
        · rw [hii]; exact hb
        · exact z i' (by omega)
      · rw [h4]
        refine not_congr ⟨fun z i' hi' hb' => ?_, fun z i' hi' => z i' (by omega)⟩
        by_cases hii : i' = i
        · rw [hii] at hb'; exact absurd hb' hb
        · exact z i' (by omega) hb'
end
theorem i_vc_carries {k : Nat} {u : SX} {v : SY} (I : i_Rel k u v) (hk : k + 4 ≤ 2050) (v1 : Int32) (v2 : Int32) : wpX_carries (fun r => wpY_carries (fun r' v' => r' = r ∧ i_Rel (k + 4) u v') v v1 v2) u v1 v2 := by
  have I' := I
  obtain ⟨m, r, t, o, cnt, tA, sA, xA, w, p, c, fc, bA, oA, w', sI, vA, uA, nA, yA, hm, hr, hX, rfl, rfl, hY⟩ := rl_open I
  have hc := hX.1
  unfold wpX_carries wpY_carries
  rcases gd_ix v1 (n := r) (by omega) with h1 | ⟨j, hj, rfl⟩
  · exact gd_J0 h1 (br_t rfl (gd_j0 h1 (br_f (by decide) ⟨rfl, I'⟩)))
  · refine gd_J1 hr hj (br_f (by decide) ?_)
    by_cases h2 : v2 = 0
    · exact br_t h2 (gd_j1 hr hj (br_t rfl (br_t h2 ⟨rfl, I'⟩)))
    · obtain ⟨a, h1, h3⟩ := ql_carries m r t o cnt tA sA xA w p c bA oA hX j (by omega) v2 cnt 0 (by omega)
      exact br_f h2 ⟨cnt + 1, h1 _ (gd_j1 hr hj (br_t rfl (br_f h2 (hY _ (fun w1 s1 a1 u1 n1 y1 hQ hR => ⟨cnt + 1, h3 w1 s1 a1 u1 n1 y1 hQ _ ⟨rfl, hR⟩⟩)))))⟩
theorem ql_and2 {S k : Nat} : S &&& 2 ^ k ≠ 0 ↔ S.testBit k = true := by
  constructor
  · intro h
    cases hb : S.testBit k
    · refine absurd ?_ h
      apply Nat.eq_of_testBit_eq
      intro i
      rw [Nat.testBit_and, Nat.testBit_two_pow, Nat.zero_testBit]
      by_cases hi : k = i
      · rw [← hi, hb]; rfl
      · rw [decide_eq_false hi, Bool.and_false]
    · rfl
  · intro h z
    have h1 : (S &&& 2 ^ k).testBit k = false := by rw [z, Nat.zero_testBit]
    rw [Nat.testBit_and, Nat.testBit_two_pow_self, h] at h1
    exact absurd h1 (by decide)
theorem i_vc_coupled {k : Nat} {u : SX} {v : SY} (I : i_Rel k u v) (hk : k + 4 ≤ 2050) (v1 : Int32) (v2 : Int32) : wpX_coupled (fun r => wpY_coupled (fun r' v' => r' = r ∧ i_Rel (k + 4) u v') v v1 v2) u v1 v2 := by
  have I' := I
  obtain ⟨m, r, t, o, cnt, tA, sA, xA, w, p, c, fc, bA, oA, w', sI, vA, uA, nA, yA, hm, hr, hX, rfl, rfl, hY⟩ := rl_open I
  have hc := hX.1
  unfold wpX_coupled wpY_coupled
  rcases gd_ix v1 (n := r) (by omega) with h1 | ⟨j, hj, rfl⟩
  · exact gd_J0 h1 (br_t rfl (gd_j0 h1 (br_f (by decide) ⟨rfl, I'⟩)))
  · refine gd_J1 hr hj (br_f (by decide) ?_)
    rcases gd_ix v2 (n := r) (by omega) with h2 | ⟨q, hq, rfl⟩
    · exact gd_J0 h2 (br_t rfl (gd_j1 hr hj (br_t rfl (gd_j0 h2 (br_f (by decide) ⟨rfl, I'⟩)))))
    · refine gd_J1 hr hq (br_f (by decide) ?_)
      have hend : ∀ a : Int32, (∀ (x3 x4 : Int32), (x3 = 0 ↔ ∀ i, i < cnt → ¬ (rl_S sA i).testBit j = true) → (x4 = 0 ↔ ¬ ∀ i, i < cnt → (rl_S sA i).testBit j = true → (rl_S sA i).testBit q = true) → (x3 = 0 ∧ a = -2) ∨ (¬ x3 = 0 ∧ x4 = 0 ∧ a = 0) ∨ (¬ x3 = 0 ∧ ¬ x4 = 0 ∧ a = 1)) → wpY_badReaction (fun r_1 => (((r_1 = 0 → (wpY_badReaction (fun r_15 => (((r_15 = 0 → (wpY_list (fun u => match u with | (f_m_30, f_r_31, f_count_32, a_table_33, a_both_34, a_off_35, a_work_36, a_solvedIn_37, a_v_38, a_support_39, a_turns_40, a_value_41) => (∃ n30 : Nat, wY_coupled_30 (fun r' v' => r' = a ∧ i_Rel (k + 4) (nI m, nI r, nI t, nI o, nI cnt, tA, sA, xA, w, p, c) v') (nI j) (nI q) f_m_30 f_r_31 f_count_32 a_table_33 a_both_34 a_off_35 a_work_36 a_solvedIn_37 a_v_38 a_support_39 a_turns_40 a_value_41 n30 0 1 0)) (nI m, nI r, fc, tA, bA, oA, w', sI, vA, uA, nA, yA))) ∧ (¬ r_15 = 0 → (-1 = a ∧ i_Rel (k + 4) (nI m, nI r, nI t, nI o, nI cnt, tA, sA, xA, w, p, c) (nI m, nI r, fc, tA, bA, oA, w', sI, vA, uA, nA, yA)))))) (nI m, nI r, fc, tA, bA, oA, w', sI, vA, uA, nA, yA) (nI q))) ∧ (¬ r_1 = 0 → (-1 = a ∧ i_Rel (k + 4) (nI m, nI r, nI t, nI o, nI cnt, tA, sA, xA, w, p, c) (nI m, nI r, fc, tA, bA, oA, w', sI, vA, uA, nA, yA)))))) (nI m, nI r, fc, tA, bA, oA, w', sI, vA, uA, nA, yA) (nI j) := by
        intro a ha
        refine gd_j1 hr hj (br_t rfl (gd_j1 hr hq (br_t rfl (hY _ (fun w1 s1 a1 u1 n1 y1 hQ hR => ⟨cnt + 1, ?_⟩)))))
        refine ql_cp t cnt tA sA xA bA oA hX j q (by omega) (by omega) (nI m) (nI r) w1 s1 a1 u1 n1 y1 hQ _ (fun x3 x4 h3 h4 => ?_) cnt 0 0 1 (by omega) ⟨fun _ i hi => absurd hi (Nat.not_lt_zero _), fun _ => rfl⟩ ⟨fun z => absurd z (by decide), fun z => absurd (fun i hi => absurd hi (Nat.not_lt_zero _)) z⟩
        rcases ha x3 x4 h3 h4 with ⟨y1, rfl⟩ | ⟨y1, y2, rfl⟩ | ⟨y1, y2, rfl⟩
        · exact br_t y1 ⟨rfl, hR⟩
        · exact br_f y1 (br_t y2 ⟨rfl, hR⟩)
        · exact br_f y1 (br_f y2 ⟨rfl, hR⟩)
      have k0 : ql_k cnt j 0 sA 0 ↔ ∀ i, i < cnt → ¬ (rl_S sA i).testBit j = true := ⟨fun z i hi hb => z i (Nat.zero_le _) hi hb (Nat.and_zero _), fun z i _ hi hb => absurd hb (z i hi)⟩
      have k1 : ql_k cnt j (2 ^ q) sA 0 ↔ ∀ i, i < cnt → (rl_S sA i).testBit j = true → (rl_S sA i).testBit q = true := ⟨fun z i hi hb => ql_and2.mp (z i (Nat.zero_le _) hi hb), fun z i _ hi hb => ql_and2.mpr (z i hi hb)⟩
      refine ⟨cnt + 1, ql_cut m r t o cnt tA sA xA w p c hX j 0 (by omega) _ cnt 0 (by omega) (fun hk0 => ?_) (fun hk0 => ?_)⟩
      · refine br_f (by decide) (hend _ (fun x3 x4 h3 h4 => Or.inl ⟨h3.mpr (k0.mp hk0), rfl⟩))
      · refine br_t rfl ?_
        rw [zz_sh (by omega)]
        refine ⟨cnt + 1, ql_cut m r t o cnt tA sA xA w p c hX j (2 ^ q) (by omega) _ cnt 0 (by omega) (fun hk1 => ?_) (fun hk1 => ?_)⟩
        · refine br_f (by decide) (hend _ (fun x3 x4 h3 h4 => Or.inr (Or.inr ⟨fun z => hk0 (k0.mpr (h3.mp z)), fun z => h4.mp z (k1.mp hk1), rfl⟩)))
        · refine br_t rfl (hend _ (fun x3 x4 h3 h4 => Or.inr (Or.inl ⟨fun z => hk0 (k0.mpr (h3.mp z)), h4.mpr (fun z => hk1 (k1.mpr z)), rfl⟩)))
theorem ql_cnt (post : Int32 → Prop) (S : Nat) (hS : S < 256) (hp : post (nI (es_n S 8))) : wpX_countOf post (nI S) := by
  have H : ∀ (e j n : Nat), j + e = 8 → e < n → wX_countOf_4 post (nI S) n (nI (es_n S j)) (nI j) := by
    intro e
    induction e with
    | zero =>
      intro j n hj hn
      obtain ⟨n, rfl⟩ : ∃ k, n = k + 1 := ⟨n - 1, by omega⟩
      have hj8 : j = 8 := by omega
      subst hj8
      rw [wX_countOf_4]
      exact pk_le 8 8 (fun _ => hp) (fun h => by omega)
    | succ e ih =>
      intro j n hj hn
      obtain ⟨n, rfl⟩ : ∃ k, n = k + 1 := ⟨n - 1, by omega⟩
      have h1 := ih (j + 1) n (by omega) (by omega)
      rw [wX_countOf_4]
      refine pk_le 8 j (fun h => by omega) (fun h => ?_)
      by_cases hb : S.testBit j = true
      · rw [show es_n S (j + 1) = es_n S j + 1 by show es_n S j + (if _ then 1 else 0) = _; rw [if_pos hb]] at h1
        exact xw_b1 (by omega) (by omega) hb (nm_r (nI_1 _) (nm_r (nI_1 j) h1))
      · rw [show es_n S (j + 1) = es_n S j by show es_n S j + (if _ then 1 else 0) = _; rw [if_neg hb]; rfl] at h1
        exact xw_b0 (by omega) (by omega) hb (nm_r (Int32.add_zero _) (nm_r (nI_1 j) h1))
  exact ⟨9, H 8 0 9 rfl (by decide)⟩
section
variable (m r t o cnt : Nat) (tA sA xA w p c : Nat → Int32) (bA oA : Nat → Int32)
theorem ql_cs (hX : rl_X cnt sA xA) (hr : r ≤ 8) (j : Nat) (hj : j < 8) : ∀ e C (x : Int32), C + e = 2 ^ r → ∃ a : Int32, (∀ post : Int32 → Prop, post a → wX_cutSize_23 post (nI j) (nI (2 ^ r)) (nI m) (nI r) (nI t) (nI o) (nI cnt) tA sA xA w p c (e + 1) x (nI C)) ∧
    (∀ (w' : Nat → Int64) (sI : Nat → Int32) (vA : Nat → Int64) (uA nA yA : Nat → Int32), rl_Y cnt t sA xA uA nA yA → ∀ post : Int32 → SY → Prop, post a (nI m, nI r, nI cnt, tA, bA, oA, w', sI, vA, uA, nA, yA) → wY_cutSize_19 post (nI j) (nI m) (nI r) (nI cnt) tA bA oA w' sI vA uA nA yA (e + 1) x (nI C)) := by
  have hc := hX.1
  have h256 := md_p8 hr
  have hsh : (1 : Int32) <<< (nI r &&& 31) = nI (2 ^ r) := zz_sh (by omega)
  intro e
  induction e with
  | zero =>
    intro C x hC
    have h : nI (2 ^ r) ≤ nI C := nI_le (by omega) (by omega)
    exact ⟨x, fun post hp => br_t h hp, fun w' sI vA uA nA yA hQ post hp => br_t (by rw [hsh]; exact h) hp⟩
  | succ e ih =>
    intro C x hC
    have h : ¬ nI (2 ^ r) ≤ nI C := nI_ge (by omega) (by omega)
    have h' : ¬ (1 : Int32) <<< (nI r &&& 31) ≤ nI C := by rw [hsh]; exact h
    have hsk : ∀ a : Int32, ((∀ post : Int32 → Prop, post a → wX_cutSize_23 post (nI j) (nI (2 ^ r)) (nI m) (nI r) (nI t) (nI o) (nI cnt) tA sA xA w p c (e + 1) x (nI (C + 1))) ∧
        (∀ (w' : Nat → Int64) (sI : Nat → Int32) (vA : Nat → Int64) (uA nA yA : Nat → Int32), rl_Y cnt t sA xA uA nA yA → ∀ post : Int32 → SY → Prop, post a (nI m, nI r, nI cnt, tA, bA, oA, w', sI, vA, uA, nA, yA) → wY_cutSize_19 post (nI j) (nI m) (nI r) (nI cnt) tA bA oA w' sI vA uA nA yA (e + 1) x (nI (C + 1)))) → True := fun _ _ => trivial
    by_cases hb : C.testBit j = true
    · obtain ⟨a, hX2, hY2⟩ := ih (C + 1) x (by omega)
      exact ⟨a, fun post hp => br_f h (xw_b1 (by omega) (by omega) hb (br_f (by decide) (nm_r (nI_1 C) (hX2 post hp)))), fun w' sI vA uA nA yA hQ post hp => br_f h' (yw_i1 _ (by omega) (by omega) hb (br_f (by decide) (nm_r (nI_1 C) (hY2 w' sI vA uA nA yA hQ post hp))))⟩
    · by_cases hq : ql_k cnt j C sA 0
      · by_cases hx : x < 0
        · obtain ⟨a, hX2, hY2⟩ := ih (C + 1) (nI (es_n C 8)) (by omega)
          refine ⟨a, fun post hp => br_f h (xw_b0 (by omega) (by omega) hb (br_t rfl ⟨cnt + 1, ql_cut m r t o cnt tA sA xA w p c hX j C hj _ cnt 0 (by omega) (fun _ => br_f (by decide) (ql_cnt _ C (by omega) (br_t hx (nm_r (nI_1 C) (hX2 post hp))))) (fun z => absurd hq z)⟩)), fun w' sI vA uA nA yA hQ post hp => br_f h' (yw_i0 _ (by omega) (by omega) hb (br_t rfl ⟨cnt + 1, ql_sil t cnt tA sA xA bA oA hX j C hj (nI m) (nI r) w' sI vA uA nA yA hQ _ cnt 0 (by omega) (fun _ => br_f (by decide) (yl_num _ _ C (by omega) (br_t hx (nm_r (nI_1 C) (hY2 w' sI vA uA nA yA hQ post hp))))) (fun z => absurd hq z)⟩))⟩
        · by_cases hle : x ≤ nI (es_n C 8)
          · obtain ⟨a, hX2, hY2⟩ := ih (C + 1) x (by omega)
            refine ⟨a, fun post hp => br_f h (xw_b0 (by omega) (by omega) hb (br_t rfl ⟨cnt + 1, ql_cut m r t o cnt tA sA xA w p c hX j C hj _ cnt 0 (by omega) (fun _ => br_f (by decide) (ql_cnt _ C (by omega) (br_f hx (br_t hle (nm_r (nI_1 C) (hX2 post hp)))))) (fun z => absurd hq z)⟩)), fun w' sI vA uA nA yA hQ post hp => br_f h' (yw_i0 _ (by omega) (by omega) hb (br_t rfl ⟨cnt + 1, ql_sil t cnt tA sA xA bA oA hX j C hj (nI m) (nI r) w' sI vA uA nA yA hQ _ cnt 0 (by omega) (fun _ => br_f (by decide) (yl_num _ _ C (by omega) (br_f hx (br_t hle (nm_r (nI_1 C) (hY2 w' sI vA uA nA yA hQ post hp)))))) (fun z => absurd hq z)⟩))⟩
          · obtain ⟨a, hX2, hY2⟩ := ih (C + 1) (nI (es_n C 8)) (by omega)
            refine ⟨a, fun post hp => br_f h (xw_b0 (by omega) (by omega) hb (br_t rfl ⟨cnt + 1, ql_cut m r t o cnt tA sA xA w p c hX j C hj _ cnt 0 (by omega) (fun _ => br_f (by decide) (ql_cnt _ C (by omega) (br_f hx (br_f hle (nm_r (nI_1 C) (hX2 post hp)))))) (fun z => absurd hq z)⟩)), fun w' sI vA uA nA yA hQ post hp => br_f h' (yw_i0 _ (by omega) (by omega) hb (br_t rfl ⟨cnt + 1, ql_sil t cnt tA sA xA bA oA hX j C hj (nI m) (nI r) w' sI vA uA nA yA hQ _ cnt 0 (by omega) (fun _ => br_f (by decide) (yl_num _ _ C (by omega) (br_f hx (br_f hle (nm_r (nI_1 C) (hY2 w' sI vA uA nA yA hQ post hp)))))) (fun z => absurd hq z)⟩))⟩
      · obtain ⟨a, hX2, hY2⟩ := ih (C + 1) x (by omega)
        refine ⟨a, fun post hp => br_f h (xw_b0 (by omega) (by omega) hb (br_t rfl ⟨cnt + 1, ql_cut m r t o cnt tA sA xA w p c hX j C hj _ cnt 0 (by omega) (fun z => absurd z hq) (fun _ => br_t rfl (nm_r (nI_1 C) (hX2 post hp)))⟩)), fun w' sI vA uA nA yA hQ post hp => br_f h' (yw_i0 _ (by omega) (by omega) hb (br_t rfl ⟨cnt + 1, ql_sil t cnt tA sA xA bA oA hX j C hj (nI m) (nI r) w' sI vA uA nA yA hQ _ cnt 0 (by omega) (fun z => absurd z hq) (fun _ => br_t rfl (nm_r (nI_1 C) (hY2 w' sI vA uA nA yA hQ post hp)))⟩))⟩
end
theorem i_vc_cutSize {k : Nat} {u : SX} {v : SY} (I : i_Rel k u v) (hk : k + 4 ≤ 2050) (v1 : Int32) : wpX_cutSize (fun r => wpY_cutSize (fun r' v' => r' = r ∧ i_Rel (k + 4) u v') v v1) u v1 := by
  have I' := I
  obtain ⟨m, r, t, o, cnt, tA, sA, xA, w, p, c, fc, bA, oA, w', sI, vA, uA, nA, yA, hm, hr, hX, rfl, rfl, hY⟩ := rl_open I
  have hc := hX.1
  unfold wpX_cutSize wpY_cutSize
  rcases gd_ix v1 (n := r) (by omega) with h1 | ⟨j, hj, rfl⟩
  · exact gd_J0 h1 (br_t rfl (gd_j0 h1 (br_f (by decide) ⟨rfl, I'⟩)))
  · obtain ⟨a, h1, h2⟩ := ql_cs m r t o cnt tA sA xA w p c bA oA hX hr j (by omega) (2 ^ r) 0 (-2) (by omega)
    exact gd_J1 hr hj (br_f (by decide) (nm_r (zz_sh (by omega)) ⟨2 ^ r + 1, h1 _ (gd_j1 hr hj (br_t rfl (hY _ (fun w1 s1 a1 u1 n1 y1 hQ hR => ⟨2 ^ r + 1, h2 w1 s1 a1 u1 n1 y1 hQ _ ⟨rfl, hR⟩⟩))))⟩))
end
section
/-! yieldTop and yieldBottom -/
def yn_n (xA : Nat → Int32) (i a b : Nat) : Int := if 0 ≤ rl_T xA (8 * i + a) then rl_T xA (8 * i + b) else -rl_T xA (8 * i + b)
def yn_d (xA : Nat → Int32) (i a : Nat) : Int := if 0 ≤ rl_T xA (8 * i + a) then rl_T xA (8 * i + a) else -rl_T xA (8 * i + a)
section
variable (m r t o cnt : Nat) (tA sA xA w p c : Nat → Int32) (bA oA : Nat → Int32)
theorem yn_b (hX : rl_X cnt sA xA) {i a b : Nat} (hi : i < cnt) (ha : a < 8) (hb : b < 8) : (yn_n xA i a b).natAbs ≤ 1944 ∧ (yn_d xA i a).natAbs ≤ 1944 := by
  have h1 := ((hX.2 i hi).2.2 a ha).1
  have h2 := ((hX.2 i hi).2.2 b hb).1
  unfold yn_n yn_d
  constructor
  · split <;> omega
  · split <;> omega
theorem ql_num (hX : rl_X cnt sA xA) {i a b : Nat} (hi : i < cnt) (ha : a < 8) (hb : b < 8) (post : Int32 → Prop) (hp : post (zz_i (yn_n xA i a b))) : wpX_yieldNumerator post (nI m, nI r, nI t, nI o, nI cnt, tA, sA, xA, w, p, c) (nI i) (nI a) (nI b) := by
  have hc := hX.1
  obtain ⟨z1, e1⟩ := (hX.2 i hi).2.2 a ha
  obtain ⟨z2, e2⟩ := (hX.2 i hi).2.2 b hb
  have c1 : (nI i * 8 + nI a).toNatClampNeg = 8 * i + a := by rw [zz_x, nI_clamp (by omega)]
  have v1 : vp_in (nI i * 8 + nI a) 2048 := by rw [zz_x]; exact vp_in_nI (by omega) (by decide)
  have c2 : (nI i * 8 + nI b).toNatClampNeg = 8 * i + b := by rw [zz_x, nI_clamp (by omega)]
  have v2 : vp_in (nI i * 8 + nI b) 2048 := by rw [zz_x]; exact vp_in_nI (by omega) (by decide)
  refine ⟨v2, nm_r (e' := zz_i (rl_T xA (8 * i + b))) (by rw [c2]; exact e2) ⟨v1, ?_⟩⟩
  rw [c1, e1]
  unfold yn_n at hp
  by_cases h : 0 ≤ rl_T xA (8 * i + a)
  · rw [if_pos h] at hp
    exact br_t ((zz_i0le (by omega)).mpr h) hp
  · rw [if_neg h] at hp
    refine br_f (fun z => h ((zz_i0le (by omega)).mp z)) ?_
    rw [zz_ineg]; exact hp
theorem ql_den (hX : rl_X cnt sA xA) {i a : Nat} (hi : i < cnt) (ha : a < 8) (post : Int32 → Prop) (hp : post (zz_i (yn_d xA i a))) : wpX_yieldDenominator post (nI m, nI r, nI t, nI o, nI cnt, tA, sA, xA, w, p, c) (nI i) (nI a) := by
  have hc := hX.1
  obtain ⟨z1, e1⟩ := (hX.2 i hi).2.2 a ha
  have c1 : (nI i * 8 + nI a).toNatClampNeg = 8 * i + a := by rw [zz_x, nI_clamp (by omega)]
  have v1 : vp_in (nI i * 8 + nI a) 2048 := by rw [zz_x]; exact vp_in_nI (by omega) (by decide)
  refine ⟨v1, nm_r (e' := zz_i (rl_T xA (8 * i + a))) (by rw [c1]; exact e1) ?_⟩
  unfold yn_d at hp
  by_cases h : 0 ≤ rl_T xA (8 * i + a)
  · rw [if_pos h] at hp
    exact br_t ((zz_i0le (by omega)).mpr h) hp
  · rw [if_neg h] at hp
    refine br_f (fun z => h ((zz_i0le (by omega)).mp z)) ?_
    rw [zz_ineg]; exact hp
theorem ql_more (hX : rl_X cnt sA xA) {i q a b : Nat} (hi : i < cnt) (hq : q < cnt) (ha : a < 8) (hb : b < 8) (post : Int32 → Prop) (h0 : zz_l (yn_n xA i a b) * zz_l (yn_d xA q a) ≤ zz_l (yn_n xA q a b) * zz_l (yn_d xA i a) → post 0) (h1 : ¬ zz_l (yn_n xA i a b) * zz_l (yn_d xA q a) ≤ zz_l (yn_n xA q a b) * zz_l (yn_d xA i a) → post 1) : wpX_yieldsMore post (nI m, nI r, nI t, nI o, nI cnt, tA, sA, xA, w, p, c) (nI i) (nI q) (nI a) (nI b) := by
  have b1 := yn_b cnt sA xA hX hi ha hb
  have b2 := yn_b cnt sA xA hX hq ha hb
  unfold wpX_yieldsMore
  refine ql_num m r t o cnt tA sA xA w p c hX hi ha hb _ (ql_den m r t o cnt tA sA xA w p c hX hi ha _ (ql_num m r t o cnt tA sA xA w p c hX hq ha hb _ (ql_den m r t o cnt tA sA xA w p c hX hq ha _ ?_)))
  rw [zz_il (by omega), zz_il (by omega), zz_il (by omega), zz_il (by omega)]
  exact ⟨h0, h1⟩
theorem ql_97 (hX : rl_X cnt sA xA) {i a b : Nat} (hi : i < cnt) (ha : a < 8) (hb : b < 8) (fm fr x3 : Int32) (w' : Nat → Int64) (sI : Nat → Int32) (vA : Nat → Int64) (uA nA yA : Nat → Int32) (hQ : rl_Y cnt t sA xA uA nA yA) (post : Int32 → SY → Prop) (J : Int32 → Int32 → Prop)
    (hx : x3 = -1 ∨ ∃ q, q < cnt ∧ x3 = nI q) (hm1 : x3 = -1 → J (nI i) (nI (i + 1))) (h0 : ∀ q, q < cnt → x3 = nI q → zz_l (yn_n xA i a b) * zz_l (yn_d xA q a) ≤ zz_l (yn_n xA q a b) * zz_l (yn_d xA i a) → J x3 (nI (i + 1))) (h1 : ∀ q, q < cnt → x3 = nI q → ¬ zz_l (yn_n xA i a b) * zz_l (yn_d xA q a) ≤ zz_l (yn_n xA q a b) * zz_l (yn_d xA i a) → J (nI i) (nI (i + 1))) :
    wY_bestYield_97 post J (nI a) (nI b) x3 (nI i) (zz_l (yn_d xA i a)) (zz_l (yn_n xA i a b)) fm fr (nI cnt) tA bA oA w' sI vA uA nA yA := by
  have hc := hX.1
  rcases hx with rfl | ⟨q, hq, rfl⟩
  · exact br_f (by decide) (nm_r (nI_1 i) (hm1 rfl))
  · have c1 : (8 * nI q + nI a).toNatClampNeg = 8 * q + a := by rw [zz_y, nI_clamp (by omega)]
    have v1 : vp_in (8 * nI q + nI a) 2048 := by rw [zz_y]; exact vp_in_nI (by omega) (by decide)
    have c2 : (8 * nI q + nI b).toNatClampNeg = 8 * q + b := by rw [zz_y, nI_clamp (by omega)]
    have v2 : vp_in (8 * nI q + nI b) 2048 := by rw [zz_y]; exact vp_in_nI (by omega) (by decide)
    have z1 := ((hX.2 q hq).2.2 a ha).1
    have z2 := ((hX.2 q hq).2.2 b hb).1
    have hend : wY_bestYield_152 post J (nI a) (nI b) (nI q) (nI i) (zz_l (yn_d xA i a)) (zz_l (yn_n xA i a b)) (zz_l (yn_d xA q a)) (zz_l (yn_n xA q a b)) fm fr (nI cnt) tA bA oA w' sI vA uA nA yA :=
      ⟨fun z => nm_r (nI_1 i) (h0 q hq rfl z), fun z => nm_r (nI_1 i) (h1 q hq rfl z)⟩
    refine br_t (nI_pos' (by omega)) ⟨v1, nm_r (e' := zz_l (rl_T xA (8 * q + a))) (by rw [c1, (hQ q hq).2.2 a ha, zz_il (by omega)]) ⟨v2, nm_r (e' := zz_l (rl_T xA (8 * q + b))) (by rw [c2, (hQ q hq).2.2 b hb, zz_il (by omega)]) ?_⟩⟩
    unfold yn_n yn_d at hend ⊢
    by_cases h : 0 ≤ rl_T xA (8 * q + a)
    · rw [if_pos h, if_pos h] at hend
      exact br_t ((zz_l0le (by omega)).mpr h) hend
    · rw [if_neg h, if_neg h] at hend
      exact br_f (fun z => h ((zz_l0le (by omega)).mp z)) (nm_r (zz_lneg _) (nm_r (zz_lneg _) hend))
theorem ql_best (hX : rl_X cnt sA xA) (a b : Nat) (ha : a < 8) (hb : b < 8) : ∀ e i (x : Int32), i + e = cnt → (x = -1 ∨ ∃ q, q < cnt ∧ x = nI q ∧ rl_T xA (8 * q + a) ≠ 0) → ∃ s : Int32, (s = -1 ∨ ∃ q, q < cnt ∧ s = nI q ∧ rl_T xA (8 * q + a) ≠ 0) ∧ (∀ post : Int32 → Prop, post s → wX_bestYield_23 post (nI a) (nI b) (nI m) (nI r) (nI t) (nI o) (nI cnt) tA sA xA w p c (e + 1) x (nI i)) ∧
    (∀ (w' : Nat → Int64) (sI : Nat → Int32) (vA : Nat → Int64) (uA nA yA : Nat → Int32), rl_Y cnt t sA xA uA nA yA → ∀ post : Int32 → SY → Prop, post s (nI m, nI r, nI cnt, tA, bA, oA, w', sI, vA, uA, nA, yA) → wY_bestYield_9 post (nI a) (nI b) (nI m) (nI r) (nI cnt) tA bA oA w' sI vA uA nA yA (e + 1) x (nI i)) := by
  have hc := hX.1
  intro e
  induction e with
  | zero =>
    intro i x hi hx
    have h : nI cnt ≤ nI i := nI_le (by omega) (by omega)
    exact ⟨x, hx, fun post hp => br_t h hp, fun w' sI vA uA nA yA hQ post hp => br_t h hp⟩
  | succ e ih =>
    intro i x hi hx
    have hic : i < cnt := by omega
    have h : ¬ nI cnt ≤ nI i := nI_ge (by omega) (by omega)
    have h2 : ¬ (256 : Int32) ≤ nI i := nI_ge (b := 256) (by omega) (by decide)
    have hv : vp_in (nI i) 256 := vp_in_nI (by omega) (by decide)
    have ci : (nI i).toNatClampNeg = i := nI_clamp (by omega)
    have c1 : (8 * nI i + nI a).toNatClampNeg = 8 * i + a := by rw [zz_y, nI_clamp (by omega)]
    have v1 : vp_in (8 * nI i + nI a) 2048 := by rw [zz_y]; exact vp_in_nI (by omega) (by decide)
    have c2 : (8 * nI i + nI b).toNatClampNeg = 8 * i + b := by rw [zz_y, nI_clamp (by omega)]
    have v2 : vp_in (8 * nI i + nI b) 2048 := by rw [zz_y]; exact vp_in_nI (by omega) (by decide)
    obtain ⟨z1, e1⟩ := (hX.2 i hic).2.2 a ha
    obtain ⟨z2, e2⟩ := (hX.2 i hic).2.2 b hb
    have l0 := zz_l0lt (a := rl_T xA (8 * i + a)) (by omega)
    have l1 := zz_l0le (a := rl_T xA (8 * i + a)) (by omega)
    have hx' : x = -1 ∨ ∃ q, q < cnt ∧ x = nI q := hx.imp id (fun ⟨q, h1, h2, _⟩ => ⟨q, h1, h2⟩)
    by_cases hq : ql_r t i a sA xA 1
    · -- the mode runs
      have hYgo : ∀ (w' : Nat → Int64) (sI : Nat → Int32) (vA : Nat → Int64) (uA nA yA : Nat → Int32), rl_Y cnt t sA xA uA nA yA → ∀ post : Int32 → SY → Prop, wY_bestYield_97 post (wY_bestYield_9 post (nI a) (nI b) (nI m) (nI r) (nI cnt) tA bA oA w' sI vA uA nA yA (e + 1)) (nI a) (nI b) x (nI i) (zz_l (yn_d xA i a)) (zz_l (yn_n xA i a b)) (nI m) (nI r) (nI cnt) tA bA oA w' sI vA uA nA yA → wY_bestYield_9 post (nI a) (nI b) (nI m) (nI r) (nI cnt) tA bA oA w' sI vA uA nA yA (e + 1 + 1) x (nI i) := by
        intro w' sI vA uA nA yA hQ post h97
        refine br_f h (br_f h2 ⟨v1, nm_r (e' := zz_l (rl_T xA (8 * i + a))) (by rw [c1, (hQ i hic).2.2 a ha, zz_il (by omega)]) ⟨v2, nm_r (e' := zz_l (rl_T xA (8 * i + b))) (by rw [c2, (hQ i hic).2.2 b hb, zz_il (by omega)]) ?_⟩⟩)
        unfold yn_n yn_d at h97
        by_cases hp0 : 0 < rl_T xA (8 * i + a)
        · rw [if_pos (by omega), if_pos (by omega)] at h97
          exact br_t (l0.mpr hp0) (br_t (l1.mpr (by omega)) h97)
        · have hz := hq.1
          rw [if_neg (by omega), if_neg (by omega)] at h97
          refine br_f (fun z => hp0 (l0.mp z)) (br_f (fun z => by have := l1.mp z; omega) ⟨hv, ?_⟩)
          rw [ci]
          have hone : sg_one (rl_S sA i) t = 0 := by
            rcases hq.2 with y | y | y
            · exact absurd y.2 (by decide)
            · omega
            · exact y
          exact br_f (fun z => (hQ i hic).2.1.mp z hone) (br_f (fun z => by have := l1.mp z; omega) (nm_r (zz_lneg _) (nm_r (zz_lneg _) h97)))
      rcases hx with rfl | ⟨q, hqc, rfl, hqz⟩
      · obtain ⟨s, hs, hX2, hY2⟩ := ih (i + 1) (nI i) (by omega) (Or.inr ⟨i, hic, rfl, hq.1⟩)
        refine ⟨s, hs, fun post hp => br_f h (ql_runs m r t o cnt tA sA xA w p c hX hic ha 1 (Or.inr rfl) _ (fun _ => br_f (by decide) (br_t (by decide) (nm_r (nI_1 i) (hX2 post hp)))) (fun z => absurd hq z)), fun w' sI vA uA nA yA hQ post hp => hYgo w' sI vA uA nA yA hQ post ?_⟩
        exact ql_97 t cnt tA sA xA bA oA hX hic ha hb (nI m) (nI r) (-1) w' sI vA uA nA yA hQ post _ (Or.inl rfl) (fun _ => hY2 w' sI vA uA nA yA hQ post hp) (fun q hqc hqe => by
          have := congrArg Int32.toInt hqe
          rw [nI_toInt (by omega), show (-1 : Int32).toInt = -1 by decide] at this
          omega) (fun q hqc hqe => by
          have := congrArg Int32.toInt hqe
          rw [nI_toInt (by omega), show (-1 : Int32).toInt = -1 by decide] at this
          omega)
      · by_cases hle : zz_l (yn_n xA i a b) * zz_l (yn_d xA q a) ≤ zz_l (yn_n xA q a b) * zz_l (yn_d xA i a)
        · obtain ⟨s, hs, hX2, hY2⟩ := ih (i + 1) (nI q) (by omega) (Or.inr ⟨q, hqc, rfl, hqz⟩)
          refine ⟨s, hs, fun post hp => br_f h (ql_runs m r t o cnt tA sA xA w p c hX hic ha 1 (Or.inr rfl) _ (fun _ => br_f (by decide) (br_f (nI_pos (by omega)) (ql_more m r t o cnt tA sA xA w p c hX hic hqc ha hb _ (fun _ => br_t rfl (nm_r (nI_1 i) (hX2 post hp))) (fun z => absurd hle z)))) (fun z => absurd hq z)), fun w' sI vA uA nA yA hQ post hp => hYgo w' sI vA uA nA yA hQ post ?_⟩
          refine ql_97 t cnt tA sA xA bA oA hX hic ha hb (nI m) (nI r) (nI q) w' sI vA uA nA yA hQ post _ (Or.inr ⟨q, hqc, rfl⟩) (fun z => ?_) (fun q' _ hqe _ => hY2 w' sI vA uA nA yA hQ post hp) (fun q' hqc' hqe z => ?_)
          · have := congrArg Int32.toInt z
            rw [nI_toInt (by omega), show (-1 : Int32).toInt = -1 by decide] at this
            omega
          · rw [← (nI_eq (by omega) (by omega)).mp hqe] at z
            exact absurd hle z
        · obtain ⟨s, hs, hX2, hY2⟩ := ih (i + 1) (nI i) (by omega) (Or.inr ⟨i, hic, rfl, hq.1⟩)
          refine ⟨s, hs, fun post hp => br_f h (ql_runs m r t o cnt tA sA xA w p c hX hic ha 1 (Or.inr rfl) _ (fun _ => br_f (by decide) (br_f (nI_pos (by omega)) (ql_more m r t o cnt tA sA xA w p c hX hic hqc ha hb _ (fun z => absurd z hle) (fun _ => br_f (by decide) (nm_r (nI_1 i) (hX2 post hp)))))) (fun z => absurd hq z)), fun w' sI vA uA nA yA hQ post hp => hYgo w' sI vA uA nA yA hQ post ?_⟩
          refine ql_97 t cnt tA sA xA bA oA hX hic ha hb (nI m) (nI r) (nI q) w' sI vA uA nA yA hQ post _ (Or.inr ⟨q, hqc, rfl⟩) (fun z => hY2 w' sI vA uA nA yA hQ post hp) (fun q' hqc' hqe z => ?_) (fun q' _ hqe _ => hY2 w' sI vA uA nA yA hQ post hp)
          rw [← (nI_eq (by omega) (by omega)).mp hqe] at z
          exact absurd z hle
    · obtain ⟨s, hs, hX2, hY2⟩ := ih (i + 1) x (by omega) hx
      refine ⟨s, hs, fun post hp => br_f h (ql_runs m r t o cnt tA sA xA w p c hX hic ha 1 (Or.inr rfl) _ (fun z => absurd z hq) (fun _ => br_t rfl (nm_r (nI_1 i) (hX2 post hp)))), fun w' sI vA uA nA yA hQ post hp => ?_⟩
      refine br_f h (br_f h2 ⟨v1, nm_r (e' := zz_l (rl_T xA (8 * i + a))) (by rw [c1, (hQ i hic).2.2 a ha, zz_il (by omega)]) ⟨v2, nm_r (e' := zz_l (rl_T xA (8 * i + b))) (by rw [c2, (hQ i hic).2.2 b hb, zz_il (by omega)]) ?_⟩⟩)
      have hn1 := hY2 w' sI vA uA nA yA hQ post hp
      have hp0 : ¬ 0 < rl_T xA (8 * i + a) := fun z => hq ⟨by omega, Or.inr (Or.inl ⟨by omega, rfl⟩)⟩
      refine br_f (fun z => hp0 (l0.mp z)) ?_
      by_cases hz : 0 ≤ rl_T xA (8 * i + a)
      · exact br_t (l1.mpr hz) (nm_r (nI_1 i) hn1)
      · refine br_f (fun z => hz (l1.mp z)) ⟨hv, ?_⟩
        rw [ci]
        refine br_t ((hQ i hic).2.1.mpr (fun z => hq ⟨by omega, Or.inr (Or.inr z)⟩)) (nm_r (nI_1 i) hn1)
theorem ql_gcd (i a b : Nat) : Int.gcd (yn_n xA i a b) (yn_d xA i a) = Int.gcd (rl_T xA (8 * i + b)) (rl_T xA (8 * i + a)) := by
  unfold yn_n yn_d
  split
  · rfl
  · rw [Int.neg_gcd, Int.gcd_neg]
theorem ql_part (hX : rl_X cnt sA xA) {q a b : Nat} (hq : q < cnt) (ha : a < 8) (hb : b < 8) (hz : rl_T xA (8 * q + a) ≠ 0) (fl : Int32) (post : Int32 → Prop)
    (h1 : ¬ fl = 0 → post (zz_i ((yn_n xA q a b).tdiv (Int.gcd (rl_T xA (8 * q + b)) (rl_T xA (8 * q + a)))))) (h0 : fl = 0 → post (zz_i ((yn_d xA q a).tdiv (Int.gcd (rl_T xA (8 * q + b)) (rl_T xA (8 * q + a)))))) :
    wpX_yieldNumerator (fun r_14 => (wpX_yieldDenominator (fun r_26 => (wpX_commonDivisor (fun r_38 => (((fl = 0 → (wX_yieldPart_54 post r_38 r_26 (nI m) (nI r) (nI t) (nI o) (nI cnt) tA sA xA w p c)) ∧ (¬ fl = 0 → (wX_yieldPart_54 post r_38 r_14 (nI m) (nI r) (nI t) (nI o) (nI cnt) tA sA xA w p c))))) r_14 r_26)) (nI m, nI r, nI t, nI o, nI cnt, tA, sA, xA, w, p, c) (nI q) (nI a))) (nI m, nI r, nI t, nI o, nI cnt, tA, sA, xA, w, p, c) (nI q) (nI a) (nI b) := by
  have b1 := yn_b cnt sA xA hX hq ha hb
  have z1 := ((hX.2 q hq).2.2 a ha).1
  refine ql_num m r t o cnt tA sA xA w p c hX hq ha hb _ (ql_den m r t o cnt tA sA xA w p c hX hq ha _ (ze_cd _ (by omega) (by omega) ?_))
  rw [ql_gcd]
  have hg : Int.gcd (rl_T xA (8 * q + b)) (rl_T xA (8 * q + a)) ≤ (rl_T xA (8 * q + a)).natAbs := Nat.gcd_le_right _ (by omega)
  have hg0 : Int.gcd (rl_T xA (8 * q + b)) (rl_T xA (8 * q + a)) ≠ 0 := fun z => hz (Int.gcd_eq_zero_iff.mp z).2
  have hgi : ¬ zz_i (Int.gcd (rl_T xA (8 * q + b)) (rl_T xA (8 * q + a))) = 0 := fun z => by
    have := (zz_ie0 (by omega)).mp z; omega
  by_cases hf : fl = 0
  · refine br_t hf (br_f hgi ⟨hgi, ?_⟩)
    rw [zz_idiv (by omega) (by omega)]; exact h0 hf
  · refine br_f hf (br_f hgi ⟨hgi, ?_⟩)
    rw [zz_idiv (by omega) (by omega)]; exact h1 hf
end
theorem i_vc_yieldTop {k : Nat} {u : SX} {v : SY} (I : i_Rel k u v) (hk : k + 4 ≤ 2050) (v1 : Int32) (v2 : Int32) : wpX_yieldTop (fun r => wpY_yieldTop (fun r' v' => r' = r ∧ i_Rel (k + 4) u v') v v1 v2) u v1 v2 := by
  have I' := I
  obtain ⟨m, r, t, o, cnt, tA, sA, xA, w, p, c, fc, bA, oA, w', sI, vA, uA, nA, yA, hm, hr, hX, rfl, rfl, hY⟩ := rl_open I
  have hc := hX.1
  unfold wpX_yieldTop wpX_yieldPart wpX_bestYield wpY_yieldTop wpY_bestYield
  rcases gd_ix v1 (n := r) (by omega) with h1 | ⟨a, ha, rfl⟩
  · exact gd_J0 h1 (br_t rfl (br_f (by decide) (gd_j0 h1 (br_f (by decide) ⟨rfl, I'⟩))))
  · refine gd_J1 hr ha (br_f (by decide) ?_)
    rcases gd_ix v2 (n := r) (by omega) with h2 | ⟨b, hb, rfl⟩
    · exact gd_J0 h2 (br_t rfl (br_f (by decide) (gd_j1 hr ha (br_t rfl (gd_j0 h2 (br_f (by decide) ⟨rfl, I'⟩))))))
    · obtain ⟨s, hs, hX2, hY2⟩ := ql_best m r t o cnt tA sA xA w p c bA oA hX a b (by omega) (by omega) cnt 0 (-1) (by omega) (Or.inl rfl)
      refine gd_J1 hr hb (br_f (by decide) ⟨cnt + 1, hX2 _ ?_⟩)
      rcases hs with rfl | ⟨q, hq, rfl, hz⟩
      · refine br_f (by decide) (gd_j1 hr ha (br_t rfl (gd_j1 hr hb (br_t rfl (hY _ (fun w1 s1 a1 u1 n1 y1 hQ hR => ⟨cnt + 1, hY2 w1 s1 a1 u1 n1 y1 hQ _ ?_⟩))))))
        exact br_f (by decide) ⟨rfl, hR⟩
      · have c1 : (8 * nI q + nI a).toNatClampNeg = 8 * q + a := by rw [zz_y, nI_clamp (by omega)]
        have w1 : vp_in (8 * nI q + nI a) 2048 := by rw [zz_y]; exact vp_in_nI (by omega) (by decide)
        have c2 : (8 * nI q + nI b).toNatClampNeg = 8 * q + b := by rw [zz_y, nI_clamp (by omega)]
        have w2 : vp_in (8 * nI q + nI b) 2048 := by rw [zz_y]; exact vp_in_nI (by omega) (by decide)
        have z1 := ((hX.2 q hq).2.2 a (by omega)).1
        have z2 := ((hX.2 q hq).2.2 b (by omega)).1
        have hg : Int.gcd (rl_T xA (8 * q + b)) (rl_T xA (8 * q + a)) ≤ (rl_T xA (8 * q + a)).natAbs := Nat.gcd_le_right _ (by omega)
        have hg0 : Int.gcd (rl_T xA (8 * q + b)) (rl_T xA (8 * q + a)) ≠ 0 := fun z => hz (Int.gcd_eq_zero_iff.mp z).2
        have hgi : ¬ zz_i (Int.gcd (rl_T xA (8 * q + b)) (rl_T xA (8 * q + a))) = 0 := fun z => by
          have := (zz_ie0 (by omega)).mp z; omega
        refine br_t (nI_pos' (by omega)) (ql_part m r t o cnt tA sA xA w p c hX hq (by omega) (by omega) hz 1 _ (fun _ => ?_) (fun z => absurd z (by decide)))
        refine gd_j1 hr ha (br_t rfl (gd_j1 hr hb (br_t rfl (hY _ (fun w3 s1 a1 u1 n1 y1 hQ hR => ⟨cnt + 1, hY2 w3 s1 a1 u1 n1 y1 hQ _ ?_⟩)))))
        refine br_t (nI_pos' (by omega)) ⟨w2, nm_r (e' := zz_i (rl_T xA (8 * q + b))) (by rw [c2]; exact (hQ q hq).2.2 b (by omega)) ⟨w1, nm_r (e' := zz_i (rl_T xA (8 * q + a))) (by rw [c1]; exact (hQ q hq).2.2 a (by omega)) ?_⟩⟩
        rw [zz_il (by omega), zz_il (by omega)]
        refine yw_div _ _ (by omega) (by omega) ?_
        rw [zz_li]
        refine br_t ((zz_ile (a := 1) (by decide) (by omega)).mpr (by omega)) ?_
        by_cases hs : 0 ≤ rl_T xA (8 * q + a)
        · refine br_t ((zz_i0le (by omega)).mpr hs) ⟨hgi, ?_, hR⟩
          rw [zz_idiv (by omega) (by omega)]; unfold yn_n; rw [if_pos hs]
        · refine br_f (fun z => hs ((zz_i0le (by omega)).mp z)) ⟨hgi, ?_, hR⟩
          rw [zz_ineg, zz_idiv (by omega) (by omega)]; unfold yn_n; rw [if_neg hs]
theorem i_vc_yieldBottom {k : Nat} {u : SX} {v : SY} (I : i_Rel k u v) (hk : k + 4 ≤ 2050) (v1 : Int32) (v2 : Int32) : wpX_yieldBottom (fun r => wpY_yieldBottom (fun r' v' => r' = r ∧ i_Rel (k + 4) u v') v v1 v2) u v1 v2 := by
  have I' := I
  obtain ⟨m, r, t, o, cnt, tA, sA, xA, w, p, c, fc, bA, oA, w', sI, vA, uA, nA, yA, hm, hr, hX, rfl, rfl, hY⟩ := rl_open I
  have hc := hX.1
  unfold wpX_yieldBottom wpX_yieldPart wpX_bestYield wpY_yieldBottom wpY_bestYield
  rcases gd_ix v1 (n := r) (by omega) with h1 | ⟨a, ha, rfl⟩
  · exact gd_J0 h1 (br_t rfl (br_f (by decide) (gd_j0 h1 (br_f (by decide) ⟨rfl, I'⟩))))
  · refine gd_J1 hr ha (br_f (by decide) ?_)
    rcases gd_ix v2 (n := r) (by omega) with h2 | ⟨b, hb, rfl⟩
    · exact gd_J0 h2 (br_t rfl (br_f (by decide) (gd_j1 hr ha (br_t rfl (gd_j0 h2 (br_f (by decide) ⟨rfl, I'⟩))))))
    · obtain ⟨s, hs, hX2, hY2⟩ := ql_best m r t o cnt tA sA xA w p c bA oA hX a b (by omega) (by omega) cnt 0 (-1) (by omega) (Or.inl rfl)
      refine gd_J1 hr hb (br_f (by decide) ⟨cnt + 1, hX2 _ ?_⟩)
      rcases hs with rfl | ⟨q, hq, rfl, hz⟩
      · refine br_f (by decide) (gd_j1 hr ha (br_t rfl (gd_j1 hr hb (br_t rfl (hY _ (fun w1 s1 a1 u1 n1 y1 hQ hR => ⟨cnt + 1, hY2 w1 s1 a1 u1 n1 y1 hQ _ ?_⟩))))))
        exact br_f (by decide) ⟨rfl, hR⟩
      · have c1 : (8 * nI q + nI a).toNatClampNeg = 8 * q + a := by rw [zz_y, nI_clamp (by omega)]
        have w1 : vp_in (8 * nI q + nI a) 2048 := by rw [zz_y]; exact vp_in_nI (by omega) (by decide)
        have c2 : (8 * nI q + nI b).toNatClampNeg = 8 * q + b := by rw [zz_y, nI_clamp (by omega)]
        have w2 : vp_in (8 * nI q + nI b) 2048 := by rw [zz_y]; exact vp_in_nI (by omega) (by decide)
        have z1 := ((hX.2 q hq).2.2 a (by omega)).1
        have z2 := ((hX.2 q hq).2.2 b (by omega)).1
        have hg : Int.gcd (rl_T xA (8 * q + b)) (rl_T xA (8 * q + a)) ≤ (rl_T xA (8 * q + a)).natAbs := Nat.gcd_le_right _ (by omega)
        have hg0 : Int.gcd (rl_T xA (8 * q + b)) (rl_T xA (8 * q + a)) ≠ 0 := fun z => hz (Int.gcd_eq_zero_iff.mp z).2
        have hgi : ¬ zz_i (Int.gcd (rl_T xA (8 * q + b)) (rl_T xA (8 * q + a))) = 0 := fun z => by
          have := (zz_ie0 (by omega)).mp z; omega
        refine br_t (nI_pos' (by omega)) (ql_part m r t o cnt tA sA xA w p c hX hq (by omega) (by omega) hz 0 _ (fun z => absurd rfl z) (fun _ => ?_))
        refine gd_j1 hr ha (br_t rfl (gd_j1 hr hb (br_t rfl (hY _ (fun w3 s1 a1 u1 n1 y1 hQ hR => ⟨cnt + 1, hY2 w3 s1 a1 u1 n1 y1 hQ _ ?_⟩)))))
        refine br_t (nI_pos' (by omega)) ⟨w1, nm_r (e' := zz_i (rl_T xA (8 * q + a))) (by rw [c1]; exact (hQ q hq).2.2 a (by omega)) ⟨w2, ?_⟩⟩
        rw [c2, (hQ q hq).2.2 b (by omega), zz_il (by omega), zz_il (by omega)]
        refine yw_div _ _ (by omega) (by omega) ?_
        rw [zz_li]
        refine br_t ((zz_ile (a := 1) (by decide) (by omega)).mpr (by omega)) ?_
        by_cases hs : 0 ≤ rl_T xA (8 * q + a)
        · refine br_t ((zz_i0le (by omega)).mpr hs) ⟨hgi, ?_, hR⟩
          rw [zz_idiv (by omega) (by omega)]; unfold yn_d; rw [if_pos hs]
        · refine br_f (fun z => hs ((zz_i0le (by omega)).mp z)) ⟨hgi, ?_, hR⟩
          rw [zz_ineg, zz_idiv (by omega) (by omega)]; unfold yn_d; rw [if_neg hs]
end
