section
/-! pure rows to paste: stores, nI and lN arithmetic, masks, shifts, narrowing, branches by naturals (pk_le, pk_lt, pk_eq), loops (lp1 .. lp16: the measure of the state; rp1 ..: recursion), negatives. Take what you need -/
theorem pk_us {f : Nat → Int32} {k : Nat} {x : Int32} : upd f k x k = x := if_pos rfl
theorem pk_un {f : Nat → Int32} {k j : Nat} {x : Int32} (h : j ≠ k) : upd f k x j = f j := if_neg h
theorem pk_uLs {f : Nat → Int64} {k : Nat} {x : Int64} : vp_updL f k x k = x := if_pos rfl
theorem pk_uLn {f : Nat → Int64} {k j : Nat} {x : Int64} (h : j ≠ k) : vp_updL f k x j = f j := if_neg h
theorem pk_sub {a b : Nat} (h : b ≤ a) : nI a - nI b = nI (a - b) := by
  obtain ⟨c, rfl⟩ : ∃ c, a = c + b := ⟨a - b, by omega⟩
  rw [← nI_add, Int32.add_sub_cancel, Nat.add_sub_cancel]
theorem pk_m1 (n : Nat) : nI (n + 1) + (-1) = nI n := by
  rw [← nI_1, Int32.add_assoc, show (1 : Int32) + (-1) = 0 from rfl, Int32.add_zero]
theorem pk_mul (a b : Nat) : nI a * nI b = nI (a * b) := (Int32.ofNat_mul a b).symm
theorem pk_div {a d : Nat} (ha : a < 2 ^ 31) (h0 : 0 < d) (hd : d < 2 ^ 31) : nI a / nI d = nI (a / d) := by
  apply Int32.toInt_inj.mp
  rw [lg_idiv_nonneg (by rw [nI_toInt ha]; omega) (by rw [nI_toInt hd]; omega), nI_toInt ha, nI_toInt hd, nI_toInt (Nat.lt_of_le_of_lt (Nat.div_le_self a d) ha)]
  first | rfl | exact (Int.natCast_ediv _ _).symm
theorem pk_rem {a d : Nat} (ha : a < 2 ^ 31) (h0 : 0 < d) (hd : d < 2 ^ 31) : nI a - nI a / nI d * nI d = nI (a % d) := by
  rw [pk_div ha h0 hd, pk_mul, pk_sub (Nat.div_mul_le_self a d)]
  exact congrArg nI (by have := Nat.div_add_mod' a d; omega)
theorem pk_sub_toInt {a b : Nat} (ha : a < 2 ^ 30) (hb : b < 2 ^ 30) : (nI a - nI b).toInt = (a : Int) - b := by
  rw [Int32.toInt_sub, nI_toInt (by omega), nI_toInt (by omega)]
  exact Int.bmod_eq_of_le (by omega) (by omega)
theorem pk_sneg {a b : Nat} (hb : b < 2 ^ 30) (h : a < b) : nI a - nI b < 0 := by
  rw [Int32.lt_iff_toInt_lt, pk_sub_toInt (by omega) hb, show (0 : Int32).toInt = 0 from by decide]
  omega
theorem pk_ix (x : Int32) {n : Nat} (hn : n < 2 ^ 31) : x < 0 ∨ nI n ≤ x ∨ ∃ j : Nat, j < n ∧ x = nI j := by
  by_cases h : x < 0
  · exact Or.inl h
  · obtain ⟨j, hj, rfl⟩ := nI_of h
    by_cases h2 : j < n
    · exact Or.inr (Or.inr ⟨j, h2, rfl⟩)
    · exact Or.inr (Or.inl (nI_le (by omega) hj))
theorem pk_le {x y : Int32} {A B : Prop} (a b : Nat) (f : a ≤ b → A) (g : b < a → B) (hx : x = nI a := by rfl) (hy : y = nI b := by rfl) (ha : a < 2 ^ 31 := by omega) (hb : b < 2 ^ 31 := by omega) : (x ≤ y → A) ∧ (¬ x ≤ y → B) := by
  subst hx hy
  rw [nI_leI ha hb]
  exact ⟨f, fun z => g (by omega)⟩
theorem pk_lt {x y : Int32} {A B : Prop} (a b : Nat) (f : a < b → A) (g : b ≤ a → B) (hx : x = nI a := by rfl) (hy : y = nI b := by rfl) (ha : a < 2 ^ 31 := by omega) (hb : b < 2 ^ 31 := by omega) : (x < y → A) ∧ (¬ x < y → B) := by
  subst hx hy
  rw [nI_ltI ha hb]
  exact ⟨f, fun z => g (by omega)⟩
theorem pk_eq {x y : Int32} {A B : Prop} (a b : Nat) (f : a = b → A) (g : a ≠ b → B) (hx : x = nI a := by rfl) (hy : y = nI b := by rfl) (ha : a < 2 ^ 31 := by omega) (hb : b < 2 ^ 31 := by omega) : (x = y → A) ∧ (¬ x = y → B) := by
  subst hx hy
  rw [nI_eq ha hb]
  exact ⟨f, g⟩
theorem pk_in {x : Int32} (n N : Nat) (h : n < N) (hx : x = nI n := by rfl) (hN : N < 2 ^ 31 := by omega) : vp_in x N := by
  subst hx
  exact vp_in_nI h hN
theorem pk_cl {x : Int32} (n : Nat) (hx : x = nI n := by rfl) (h : n < 2 ^ 31 := by omega) : x.toNatClampNeg = n := by
  subst hx
  exact nI_clamp h
theorem pk_tn {n : Nat} (h : n < 2 ^ 32) : (nI n).toBitVec.toNat = n := Nat.mod_eq_of_lt h
theorem pk_and (x : Int32) {m : Int32} (k : Nat) (hm : m.toBitVec.toNat = 2 ^ k - 1) : x &&& m = nI (x.toBitVec.toNat % 2 ^ k) := by
  apply Int32.toBitVec_inj.mp
  apply BitVec.eq_of_toNat_eq
  rw [Int32.toBitVec_and, BitVec.toNat_and, hm, Nat.and_two_pow_sub_one_eq_mod]
  show _ = (BitVec.ofNat 32 _).toNat
  rw [BitVec.toNat_ofNat]
  exact (Nat.mod_eq_of_lt (Nat.lt_of_le_of_lt (Nat.mod_le _ _) x.toBitVec.isLt)).symm
theorem pk_andN {n : Nat} (h : n < 2 ^ 32) {m : Int32} (k : Nat) (hm : m.toBitVec.toNat = 2 ^ k - 1) : nI n &&& m = nI (n % 2 ^ k) := by
  rw [pk_and _ k hm, pk_tn h]
theorem pk_andE (x : Int32) {m : Int32} (k : Nat) (hm : m.toBitVec.toNat = 2 ^ k - 1) : ∃ j : Nat, j < 2 ^ k ∧ x &&& m = nI j := ⟨_, Nat.mod_lt _ (Nat.two_pow_pos k), pk_and x k hm⟩
theorem pk_andIn (x : Int32) {m : Int32} (k : Nat) (hm : m.toBitVec.toNat = 2 ^ k - 1) (hk : k ≤ 30) : vp_in (x &&& m) (2 ^ k) := by
  obtain ⟨j, hj, e⟩ := pk_andE x k hm
  rw [e]
  exact vp_in_nI hj (Nat.lt_of_le_of_lt (Nat.pow_le_pow_right (by decide) hk) (by decide))
theorem pk_shl (a s : Int32) (k : Nat) (hs : (s.toBitVec.smod 32).toNat = k) : (a <<< s).toBitVec.toNat = a.toBitVec.toNat * 2 ^ k % 2 ^ 32 := by
  show (a.toBitVec <<< (s.toBitVec.smod 32).toNat).toNat = _
  rw [hs, BitVec.toNat_shiftLeft, Nat.shiftLeft_eq]
theorem pk_shlN {n : Nat} (s : Int32) (k : Nat) (hs : (s.toBitVec.smod 32).toNat = k) (h : n * 2 ^ k < 2 ^ 32) : nI n <<< s = nI (n * 2 ^ k) := by
  apply Int32.toBitVec_inj.mp
  apply BitVec.eq_of_toNat_eq
  have hn : n < 2 ^ 32 := Nat.lt_of_le_of_lt (Nat.le_mul_of_pos_right n (Nat.two_pow_pos k)) h
  rw [pk_shl _ _ k hs, pk_tn hn, pk_tn h, Nat.mod_eq_of_lt h]
theorem pk_shr (a s : Int32) (k : Nat) (hs : (s.toBitVec.smod 32).toNat = k) : (a >>> s).toInt = a.toInt >>> k := by
  show (a.toBitVec.sshiftRight (s.toBitVec.smod 32).toNat).toInt = _
  rw [hs, BitVec.toInt_sshiftRight]
  rfl
theorem pk_shrN {n : Nat} (h : n < 2 ^ 31) (s : Int32) (k : Nat) (hs : (s.toBitVec.smod 32).toNat = k) : nI n >>> s = nI (n / 2 ^ k) := by
  apply Int32.toInt_inj.mp
  have h2 : n / 2 ^ k ≤ n := Nat.div_le_self _ _
  rw [pk_shr _ _ k hs, nI_toInt h, nI_toInt (by omega), Int.shiftRight_eq_div_pow]
  rfl
theorem pk_ushr (x s : Int32) (k : Nat) (hs : ((s.toUInt32 &&& Int32.toUInt32 31).toBitVec % 32).toNat = k) : (x.toUInt32 >>> (s.toUInt32 &&& Int32.toUInt32 31)).toInt32.toBitVec.toNat = x.toBitVec.toNat / 2 ^ k := by
  have e : (x.toUInt32 >>> (s.toUInt32 &&& Int32.toUInt32 31)).toInt32.toBitVec = x.toBitVec >>> k := by
    rw [← hs]
    exact UInt32.toBitVec_shiftRight _ _
  rw [e, BitVec.toNat_ushiftRight, Nat.shiftRight_eq_div_pow]
theorem pk_ushrN {n : Nat} (hn : n < 2 ^ 32) (s : Int32) (k : Nat) (hs : ((s.toUInt32 &&& Int32.toUInt32 31).toBitVec % 32).toNat = k) : ((nI n).toUInt32 >>> (s.toUInt32 &&& Int32.toUInt32 31)).toInt32 = nI (n / 2 ^ k) := by
  apply Int32.toBitVec_inj.mp
  apply BitVec.eq_of_toNat_eq
  rw [pk_ushr _ s k hs, pk_tn hn, pk_tn (Nat.lt_of_le_of_lt (Nat.div_le_self _ _) hn)]
theorem pk_nb (z : Int32) : narrow .byte (.int z.toInt8.toInt32) = .int z.toInt8.toInt32 := congrArg Value.int (by simp)
theorem pk_ns (z : Int32) : narrow .short (.int z.toInt16.toInt32) = .int z.toInt16.toInt32 := congrArg Value.int (by simp)
theorem pk_fb (r : Int32) : fits .byte (.int r.toInt8.toInt32) = true := by
  have ⟨a, b⟩ := lg_i2b_range r
  have h1 : (-128 : Int32).toInt = -128 := by decide
  have h2 : (127 : Int32).toInt = 127 := by decide
  simp only [fits, Bool.and_eq_true, decide_eq_true_eq, Int32.le_iff_toInt_le, h1, h2]
  omega
theorem pk_fs (r : Int32) : fits .short (.int r.toInt16.toInt32) = true := by
  have ⟨a, b⟩ := lg_i2s_range r
  have h1 : (-32768 : Int32).toInt = -32768 := by decide
  have h2 : (32767 : Int32).toInt = 32767 := by decide
  simp only [fits, Bool.and_eq_true, decide_eq_true_eq, Int32.le_iff_toInt_le, h1, h2]
  omega
theorem pk_charN {q : Nat} (hq : q < 65536) : narrow .char (.int (nI q)) = .int (nI q) ∧ fits .char (.int (nI q)) = true := by
  constructor
  · have e : (nI q).toUInt32.toUInt16.toUInt32.toInt32 = nI q := by
      apply Int32.toBitVec_inj.mp
      apply BitVec.eq_of_toNat_eq
      show (nI q).toUInt32.toUInt16.toUInt32.toNat = q % 2 ^ 32
      rw [UInt16.toNat_toUInt32, UInt32.toNat_toUInt16, show (nI q).toUInt32.toNat = q % 2 ^ 32 from rfl]
      omega
    exact congrArg Value.int e
  · have a : (0 : Int32) ≤ nI q := nI_pos' (by omega)
    have b : nI q ≤ 65535 := nI_le (b := 65535) (by omega) (by decide)
    show (decide ((0 : Int32) ≤ nI q) && decide (nI q ≤ 65535)) = true
    rw [decide_eq_true a, decide_eq_true b]
    rfl
theorem pk_char (x : Int32) : (x.toUInt32 % 65536).toInt32 = nI (x.toBitVec.toNat % 65536) := by
  apply Int32.toBitVec_inj.mp
  apply BitVec.eq_of_toNat_eq
  rw [pk_tn (by omega)]
  show (x.toUInt32 % 65536).toNat = _
  rw [UInt32.toNat_mod]
  rfl
theorem pk_nc (x : Int32) : narrow .char (.int (x.toUInt32 % 65536).toInt32) = .int (x.toUInt32 % 65536).toInt32 := by
  rw [pk_char]
  exact (pk_charN (Nat.mod_lt _ (by decide))).1
theorem pk_fc (x : Int32) : fits .char (.int (x.toUInt32 % 65536).toInt32) = true := by
  rw [pk_char]
  exact (pk_charN (Nat.mod_lt _ (by decide))).2
theorem pk_vb (z : Int32) : vp_nar .byte z.toInt8.toInt32 = z.toInt8.toInt32 := by rw [vp_nar_byte]; simp
theorem pk_vs (z : Int32) : vp_nar .short z.toInt16.toInt32 = z.toInt16.toInt32 := by rw [vp_nar_short]; simp
theorem pk_vc (z : Int32) : vp_nar .char (z.toUInt32 % 65536).toInt32 = (z.toUInt32 % 65536).toInt32 := Value.int.inj (pk_nc z)
theorem pk_lT {n : Nat} (h : n < 2 ^ 63) : (lN n).toInt = (n : Int) := lg_ofNat_toInt h
theorem pk_lLT {a b : Nat} (ha : a < 2 ^ 63) (hb : b < 2 ^ 63) : lN a < lN b ↔ a < b := by
  rw [Int64.lt_iff_toInt_lt, pk_lT ha, pk_lT hb]; omega
theorem pk_lLE {a b : Nat} (ha : a < 2 ^ 63) (hb : b < 2 ^ 63) : lN a ≤ lN b ↔ a ≤ b := by
  rw [Int64.le_iff_toInt_le, pk_lT ha, pk_lT hb]; omega
theorem pk_lEQ {a b : Nat} (ha : a < 2 ^ 63) (hb : b < 2 ^ 63) : lN a = lN b ↔ a = b := by
  rw [← Int64.toInt_inj, pk_lT ha, pk_lT hb]; omega
theorem pk_lOf {x : Int64} (h : ¬ x < 0) : ∃ k : Nat, k < 2 ^ 63 ∧ x = lN k := by
  rw [Int64.lt_iff_toInt_lt] at h
  have h0 : (0 : Int64).toInt = 0 := by decide
  have hx := Int64.toInt_lt x
  refine ⟨x.toInt.toNat, by omega, Int64.toInt_inj.mp ?_⟩
  rw [pk_lT (by omega)]
  omega
theorem pk_lDiv {a b : Nat} (ha : a < 2 ^ 63) (h0 : 0 < b) (hb : b < 2 ^ 63) : lN a / lN b = lN (a / b) := by
  apply Int64.toInt_inj.mp
  rw [lg_ldiv_nonneg (by rw [pk_lT ha]; omega) (by rw [pk_lT hb]; omega), pk_lT ha, pk_lT hb, pk_lT (Nat.lt_of_le_of_lt (Nat.div_le_self a b) ha)]
  rfl
theorem pk_lRem {a b : Nat} (ha : a < 2 ^ 63) (h0 : 0 < b) (hb : b < 2 ^ 63) : lN a - lN a / lN b * lN b = lN (a % b) := by
  rw [pk_lDiv ha h0 hb, lN_mul, lN_sub (Nat.div_mul_le_self a b)]
  exact congrArg lN (by have := Nat.div_add_mod' a b; omega)
/-! ===== Int32 by its bits: bt x i ===== -/
def bt (x : Int32) (i : Nat) : Bool := x.toBitVec.getLsbD i
theorem b_ext {x y : Int32} (h : ∀ i, i < 32 → bt x i = bt y i) : x = y := Int32.toBitVec_inj.mp (BitVec.eq_of_getLsbD_eq (fun i hi => h i hi))
theorem b_or (x y : Int32) (i : Nat) : bt (x ||| y) i = (bt x i || bt y i) := by unfold bt; rw [Int32.toBitVec_or, BitVec.getLsbD_or]
theorem b_and (x y : Int32) (i : Nat) : bt (x &&& y) i = (bt x i && bt y i) := by unfold bt; rw [Int32.toBitVec_and, BitVec.getLsbD_and]
theorem b_xor (x y : Int32) (i : Nat) : bt (x ^^^ y) i = (bt x i ^^ bt y i) := by unfold bt; rw [Int32.toBitVec_xor, BitVec.getLsbD_xor]
theorem b_big {x : Int32} {i : Nat} (h : 32 ≤ i) : bt x i = false := BitVec.getLsbD_of_ge _ _ h
theorem b_255 (i : Nat) : bt 255 i = decide (i < 8) := by
  rcases Nat.lt_or_ge i 32 with h | h
  · exact (by decide +kernel : ∀ i, i < 32 → bt 255 i = decide (i < 8)) i h
  · rw [b_big h, decide_eq_false (by omega)]
theorem b_65535 (i : Nat) : bt 65535 i = decide (i < 16) := by
  rcases Nat.lt_or_ge i 32 with h | h
  · exact (by decide +kernel : ∀ i, i < 32 → bt 65535 i = decide (i < 16)) i h
  · rw [b_big h, decide_eq_false (by omega)]
theorem b_m1 : ∀ i, i < 32 → bt (-1) i = true := by decide +kernel
theorem b_0 (i : Nat) : bt 0 i = false := BitVec.getLsbD_zero
theorem s_l : ∀ n, n < 32 → ((nI n &&& 31).toBitVec.smod 32).toNat = n := by decide +kernel
theorem s_u : ∀ n, n < 32 → (((nI n).toUInt32 &&& Int32.toUInt32 31).toBitVec % 32).toNat = n := by decide +kernel
theorem b_shl (n : Nat) (hn : n < 32) (x : Int32) {i : Nat} (hi : i < 32) : bt (x <<< (nI n &&& 31)) i = (decide (n ≤ i) && bt x (i - n)) := by
  unfold bt
  rw [Int32.toBitVec_shiftLeft]
  show (x.toBitVec <<< ((nI n &&& 31).toBitVec.smod 32).toNat).getLsbD i = _
  rw [s_l n hn, BitVec.getLsbD_shiftLeft]
  rcases Nat.lt_or_ge i n with h | h
  · simp [h, Nat.not_le.mpr h]
  · simp [hi, h, Nat.not_lt.mpr h]
theorem b_ushr (n : Nat) (hn : n < 32) (x : Int32) (i : Nat) : bt ((x.toUInt32 >>> ((nI n).toUInt32 &&& Int32.toUInt32 31)).toInt32) i = bt x (n + i) := by
  show (x.toUInt32 >>> ((nI n).toUInt32 &&& Int32.toUInt32 31)).toBitVec.getLsbD i = x.toUInt32.toBitVec.getLsbD (n + i)
  rw [UInt32.toBitVec_shiftRight]
  show (x.toUInt32.toBitVec >>> (((nI n).toUInt32 &&& Int32.toUInt32 31).toBitVec % 32).toNat).getLsbD i = _
  rw [s_u n hn, BitVec.getLsbD_ushiftRight]
theorem b_sshr (n : Nat) (hn : n < 32) (x : Int32) {i : Nat} (hi : i < 32) : bt (x >>> (nI n &&& 31)) i = if n + i < 32 then bt x (n + i) else bt x 31 := by
  unfold bt
  rw [Int32.toBitVec_shiftRight]
  show (x.toBitVec.sshiftRight ((nI n &&& 31).toBitVec.smod 32).toNat).getLsbD i = _
  rw [s_l n hn, BitVec.getLsbD_sshiftRight, BitVec.msb_eq_getLsbD_last]
  simp [hi]
theorem b_shl8 (x : Int32) {i : Nat} (hi : i < 32) : bt (x <<< ((8 : Int32) &&& 31)) i = (decide (8 ≤ i) && bt x (i - 8)) := b_shl 8 (by omega) x hi
theorem b_shl16 (x : Int32) {i : Nat} (hi : i < 32) : bt (x <<< ((16 : Int32) &&& 31)) i = (decide (16 ≤ i) && bt x (i - 16)) := b_shl 16 (by omega) x hi
theorem b_shl24 (x : Int32) {i : Nat} (hi : i < 32) : bt (x <<< ((24 : Int32) &&& 31)) i = (decide (24 ≤ i) && bt x (i - 24)) := b_shl 24 (by omega) x hi
theorem b_sshr8 (x : Int32) {i : Nat} (hi : i < 32) : bt (x >>> ((8 : Int32) &&& 31)) i = if 8 + i < 32 then bt x (8 + i) else bt x 31 := b_sshr 8 (by omega) x hi
/-! ===== nI under and, xor, >>>, one bit, 65535 ===== -/
theorem nx_and (a b : Nat) : nI a &&& nI b = nI (a &&& b) := by
  apply Int32.toBitVec_inj.1
  show BitVec.ofNat 32 a &&& BitVec.ofNat 32 b = BitVec.ofNat 32 (a &&& b)
  apply BitVec.eq_of_getLsbD_eq
  intro i hi
  simp [hi]
theorem nx_xor (a b : Nat) : nI a ^^^ nI b = nI (a ^^^ b) := by
  apply Int32.toBitVec_inj.1
  show BitVec.ofNat 32 a ^^^ BitVec.ofNat 32 b = BitVec.ofNat 32 (a ^^^ b)
  apply BitVec.eq_of_getLsbD_eq
  intro i hi
  simp [hi]
end
section
/-! whole numbers as Int32 and Int64 -/
def zz_i (z : Int) : Int32 := Int32.ofInt z
def zz_l (z : Int) : Int64 := Int64.ofInt z
theorem zz_it {z : Int} (h : z.natAbs < 2147483648) : (zz_i z).toInt = z := Int32.toInt_ofInt_of_le (by omega) (by omega)
theorem zz_lt {z : Int} (h : z.natAbs < 9223372036854775808) : (zz_l z).toInt = z := Int64.toInt_ofInt_of_le (by omega) (by omega)
theorem zz_n (n : Nat) : nI n = zz_i n := Int32.ofInt_eq_ofNat.symm
theorem zz_nl (n : Nat) : lN n = zz_l n := Int64.ofInt_eq_ofNat.symm
theorem zz_ti (x : Int32) : zz_i x.toInt = x := Int32.ofInt_toInt x
theorem zz_i0 : zz_i 0 = 0 := rfl
theorem zz_l0 : zz_l 0 = 0 := rfl
theorem zz_i1 : zz_i 1 = 1 := rfl
theorem zz_l1 : zz_l 1 = 1 := rfl
theorem zz_im1 : zz_i (-1) = -1 := rfl
theorem zz_imul (a b : Int) : zz_i a * zz_i b = zz_i (a * b) := (Int32.ofInt_mul a b).symm
theorem zz_isub (a b : Int) : zz_i a - zz_i b = zz_i (a - b) := (Int32.ofInt_sub a b).symm
theorem zz_iadd (a b : Int) : zz_i a + zz_i b = zz_i (a + b) := (Int32.ofInt_add a b).symm
theorem zz_ineg (a : Int) : -zz_i a = zz_i (-a) := (Int32.ofInt_neg a).symm
theorem zz_lmul (a b : Int) : zz_l a * zz_l b = zz_l (a * b) := (Int64.ofInt_mul a b).symm
theorem zz_lsub (a b : Int) : zz_l a - zz_l b = zz_l (a - b) := (Int64.ofInt_sub a b).symm
theorem zz_lneg (a : Int) : -zz_l a = zz_l (-a) := (Int64.ofInt_neg a).symm
theorem zz_idiv {a b : Int} (ha : a.natAbs < 2147483648) (hb : b.natAbs < 2147483648) : zz_i a / zz_i b = zz_i (a.tdiv b) :=
  (Int32.ofInt_tdiv (by rw [Int32.toInt_minValue]; omega) (by rw [Int32.toInt_maxValue]; omega) (by rw [Int32.toInt_minValue]; omega) (by rw [Int32.toInt_maxValue]; omega)).symm
theorem zz_ldiv {a b : Int} (ha : a.natAbs < 9223372036854775808) (hb : b.natAbs < 9223372036854775808) : zz_l a / zz_l b = zz_l (a.tdiv b) :=
  (Int64.ofInt_tdiv (by rw [Int64.toInt_minValue]; omega) (by rw [Int64.toInt_maxValue]; omega) (by rw [Int64.toInt_minValue]; omega) (by rw [Int64.toInt_maxValue]; omega)).symm
theorem zz_ile {a b : Int} (ha : a.natAbs < 2147483648) (hb : b.natAbs < 2147483648) : zz_i a ≤ zz_i b ↔ a ≤ b := by rw [Int32.le_iff_toInt_le, zz_it ha, zz_it hb]
theorem zz_ilt {a b : Int} (ha : a.natAbs < 2147483648) (hb : b.natAbs < 2147483648) : zz_i a < zz_i b ↔ a < b := by rw [Int32.lt_iff_toInt_lt, zz_it ha, zz_it hb]
theorem zz_ieq {a b : Int} (ha : a.natAbs < 2147483648) (hb : b.natAbs < 2147483648) : zz_i a = zz_i b ↔ a = b := by rw [← Int32.toInt_inj, zz_it ha, zz_it hb]
theorem zz_lle {a b : Int} (ha : a.natAbs < 9223372036854775808) (hb : b.natAbs < 9223372036854775808) : zz_l a ≤ zz_l b ↔ a ≤ b := by rw [Int64.le_iff_toInt_le, zz_lt ha, zz_lt hb]
theorem zz_llt {a b : Int} (ha : a.natAbs < 9223372036854775808) (hb : b.natAbs < 9223372036854775808) : zz_l a < zz_l b ↔ a < b := by rw [Int64.lt_iff_toInt_lt, zz_lt ha, zz_lt hb]
theorem zz_leq {a b : Int} (ha : a.natAbs < 9223372036854775808) (hb : b.natAbs < 9223372036854775808) : zz_l a = zz_l b ↔ a = b := by rw [← Int64.toInt_inj, zz_lt ha, zz_lt hb]
theorem zz_ie0 {a : Int} (ha : a.natAbs < 2147483648) : zz_i a = 0 ↔ a = 0 := zz_ieq (b := 0) ha (by decide)
theorem zz_le0 {a : Int} (ha : a.natAbs < 9223372036854775808) : zz_l a = 0 ↔ a = 0 := zz_leq (b := 0) ha (by decide)
theorem zz_i0le {a : Int} (ha : a.natAbs < 2147483648) : 0 ≤ zz_i a ↔ 0 ≤ a := zz_ile (a := 0) (by decide) ha
theorem zz_l0le {a : Int} (ha : a.natAbs < 9223372036854775808) : 0 ≤ zz_l a ↔ 0 ≤ a := zz_lle (a := 0) (by decide) ha
theorem zz_l0lt {a : Int} (ha : a.natAbs < 9223372036854775808) : 0 < zz_l a ↔ 0 < a := zz_llt (a := 0) (by decide) ha
theorem zz_lle1 {a : Int} (ha : a.natAbs < 9223372036854775808) : zz_l a ≤ 1 ↔ a ≤ 1 := zz_lle (b := 1) ha (by decide)
theorem zz_il {a : Int} (ha : a.natAbs < 2147483648) : (zz_i a).toInt64 = zz_l a :=
  Int32.toInt64_ofInt (by rw [Int32.toInt_minValue]; omega) (by rw [Int32.toInt_maxValue]; omega)
theorem zz_li (a : Int) : (zz_l a).toInt32 = zz_i a := Int64.toInt32_ofInt
/-! indices -/
theorem zz_x (s j : Nat) : nI s * 8 + nI j = nI (8 * s + j) := by
  rw [show (8 : Int32) = nI 8 from rfl, pk_mul, nI_add, Nat.mul_comm]
theorem zz_y (s j : Nat) : 8 * nI s + nI j = nI (8 * s + j) := by
  rw [show (8 : Int32) = nI 8 from rfl, pk_mul, nI_add]
/-! bounds of sums and products -/
theorem zz_mb {a b : Int} {A B : Nat} (ha : a.natAbs ≤ A) (hb : b.natAbs ≤ B) : (a * b).natAbs ≤ A * B := by
  rw [Int.natAbs_mul]; exact Nat.mul_le_mul ha hb
/-! the greatest common divisor: both loops -/
theorem ze_x (post : Int32 → Prop) : ∀ (n y x s : Nat), y < n → x < 2 ^ 31 → y < 2 ^ 31 → s + y < 1000000 → post (nI (Nat.gcd x y)) → wX_commonDivisor_13 post n (nI x) (nI y) (nI s) := by
  intro n
  induction n with
  | zero => intro y x s h; omega
  | succ n ih =>
    intro y x s hn hx hy hs hp
    have h1 : ¬ (1000000 : Int32) ≤ nI s := nI_ge (b := 1000000) (by omega) (by decide)
    rw [wX_commonDivisor_13]
    refine br_f h1 ?_
    by_cases h0 : y = 0
    · subst h0
      rw [Nat.gcd_zero_right] at hp
      exact br_t nI_0 hp
    · have h2 : ¬ nI y = 0 := nI_ne0 (by omega) hy
      have hm : x % y < y := Nat.mod_lt _ (by omega)
      refine br_f h2 ⟨h2, nm_r (pk_rem hx (by omega) hy) (nm_r (nI_1 s) ?_)⟩
      refine ih (x % y) y (s + 1) (by omega) hy (by omega) (by omega) ?_
      rw [Nat.gcd_comm y, ← Nat.gcd_rec y x, Nat.gcd_comm]
      exact hp
theorem zz_abs {a : Int} (ha : a.natAbs < 2147483648) (h : 0 ≤ a) : zz_i a = nI a.natAbs := by
  rw [zz_n]; exact congrArg zz_i (by omega)
theorem zz_abn {a : Int} (ha : a.natAbs < 2147483648) (h : ¬ 0 ≤ a) : -zz_i a = nI a.natAbs := by
  rw [zz_n, zz_ineg]; exact congrArg zz_i (by omega)
theorem zz_lbs {a : Int} (h : 0 ≤ a) : zz_l a = lN a.natAbs := by
  rw [zz_nl]; exact congrArg zz_l (by omega)
theorem zz_lbn {a : Int} (h : ¬ 0 ≤ a) : -zz_l a = lN a.natAbs := by
  rw [zz_nl, zz_lneg]; exact congrArg zz_l (by omega)
theorem ze_mag (post : Int32 → Prop) {a : Int} (ha : a.natAbs < 2147483648) (hp : post (nI a.natAbs)) : wpX_magnitude post (zz_i a) := by
  by_cases h : 0 ≤ a
  · exact br_t ((zz_i0le ha).mpr h) (by rw [zz_abs ha h]; exact hp)
  · exact br_f (fun z => h ((zz_i0le ha).mp z)) (by rw [zz_abn ha h]; exact hp)
theorem ze_cd (post : Int32 → Prop) {a b : Int} (ha : a.natAbs < 900000) (hb : b.natAbs < 900000) (hp : post (zz_i (Int.gcd a b))) : wpX_commonDivisor post (zz_i a) (zz_i b) := by
  unfold wpX_commonDivisor
  refine ze_mag _ (by omega) (ze_mag _ (by omega) ⟨b.natAbs + 1, ?_⟩)
  refine ze_x post _ b.natAbs a.natAbs 0 (by omega) (by omega) (by omega) (by omega) ?_
  rw [zz_n]; exact hp
end
section
/-! determinants of order two to four by their last row, and the identities of a fraction-free elimination -/
def dt_2 (a0 b0 a1 b1 : Int) : Int := a0 * b1 - b0 * a1
def dt_3 (a0 b0 c0 a1 b1 c1 a2 b2 c2 : Int) : Int := a2 * dt_2 b0 c0 b1 c1 - b2 * dt_2 a0 c0 a1 c1 + c2 * dt_2 a0 b0 a1 b1
def dt_4 (a0 b0 c0 e0 a1 b1 c1 e1 a2 b2 c2 e2 a3 b3 c3 e3 : Int) : Int := b3 * dt_3 a0 c0 e0 a1 c1 e1 a2 c2 e2 - a3 * dt_3 b0 c0 e0 b1 c1 e1 b2 c2 e2 + e3 * dt_3 a0 b0 c0 a1 b1 c1 a2 b2 c2 - c3 * dt_3 a0 b0 e0 a1 b1 e1 a2 b2 e2
theorem dt_b2 {a0 b0 a1 b1 : Int} (ha0 : a0.natAbs ≤ 3) (hb0 : b0.natAbs ≤ 3) (ha1 : a1.natAbs ≤ 3) (hb1 : b1.natAbs ≤ 3) : (dt_2 a0 b0 a1 b1).natAbs ≤ 18 := by
  have h1 := zz_mb ha0 hb1
  have h2 := zz_mb hb0 ha1
  unfold dt_2
  omega
theorem dt_i1 (a0 j0 c0 a1 j1 c1 : Int) : c0 * dt_2 a0 j0 a1 j1 - dt_2 a0 c0 a1 c1 * j0 = a0 * dt_2 c0 j0 c1 j1 := by
  unfold dt_2; grind
theorem dt_i2 (a0 j0 c0 a1 j1 c1 aq jq cq : Int) : dt_2 a0 c0 aq cq * dt_2 a0 j0 a1 j1 - dt_2 a0 c0 a1 c1 * dt_2 a0 j0 aq jq = a0 * dt_3 a0 j0 c0 a1 j1 c1 aq jq cq := by
  unfold dt_3 dt_2; grind
theorem dt_i3 (a0 b0 j0 c0 a1 b1 j1 c1 a2 b2 j2 c2 : Int) : dt_2 c0 b0 c1 b1 * dt_3 a0 b0 j0 a1 b1 j1 a2 b2 j2 - dt_3 a0 b0 c0 a1 b1 c1 a2 b2 c2 * dt_2 j0 b0 j1 b1 = dt_2 a0 b0 a1 b1 * dt_3 c0 b0 j0 c1 b1 j1 c2 b2 j2 := by
  unfold dt_3 dt_2; grind
theorem dt_i4 (a0 b0 j0 c0 a1 b1 j1 c1 a2 b2 j2 c2 : Int) : dt_2 a0 c0 a1 c1 * dt_3 a0 b0 j0 a1 b1 j1 a2 b2 j2 - dt_3 a0 b0 c0 a1 b1 c1 a2 b2 c2 * dt_2 a0 j0 a1 j1 = dt_2 a0 b0 a1 b1 * dt_3 a0 c0 j0 a1 c1 j1 a2 c2 j2 := by
  unfold dt_3 dt_2; grind
theorem dt_i5 (a0 b0 j0 c0 a1 b1 j1 c1 a2 b2 j2 c2 a3 b3 j3 c3 : Int) : dt_3 a0 b0 c0 a1 b1 c1 a3 b3 c3 * dt_3 a0 b0 j0 a1 b1 j1 a2 b2 j2 - dt_3 a0 b0 c0 a1 b1 c1 a2 b2 c2 * dt_3 a0 b0 j0 a1 b1 j1 a3 b3 j3 = dt_2 a0 b0 a1 b1 * dt_4 a0 b0 j0 c0 a1 b1 j1 c1 a2 b2 j2 c2 a3 b3 j3 c3 := by
  unfold dt_4 dt_3 dt_2; grind
theorem dt_i6 (a0 b0 e0 j0 c0 a1 b1 e1 j1 c1 a2 b2 e2 j2 c2 a3 b3 e3 j3 c3 : Int) : dt_3 c0 b0 e0 c1 b1 e1 c2 b2 e2 * dt_4 a0 b0 e0 j0 a1 b1 e1 j1 a2 b2 e2 j2 a3 b3 e3 j3 - dt_4 a0 b0 e0 c0 a1 b1 e1 c1 a2 b2 e2 c2 a3 b3 e3 c3 * dt_3 j0 b0 e0 j1 b1 e1 j2 b2 e2 = dt_3 a0 b0 e0 a1 b1 e1 a2 b2 e2 * dt_4 c0 b0 e0 j0 c1 b1 e1 j1 c2 b2 e2 j2 c3 b3 e3 j3 := by
  unfold dt_4 dt_3 dt_2; grind
end
