/-! whole numbers as Int32 and Int64 -/
def zz_i (z : Int) : Int32 := Int32.ofInt z
def zz_l (z : Int) : Int64 := Int64.ofInt z
theorem zz_it {z : Int} (h : z.natAbs < 2147483648) : (zz_i z).toInt = z := Int32.toInt_ofInt_of_le (by omega) (by omega)
theorem zz_lt {z : Int} (h : z.natAbs < 9223372036854775808) : (zz_l z).toInt = z := Int64.toInt_ofInt_of_le (by omega) (by omega)
theorem zz_n (n : Nat) : nI n = zz_i n := Int32.ofInt_eq_ofNat.symm
theorem zz_nl (n : Nat) : lN n = zz_l n := Int64.ofInt_eq_ofNat.symm
theorem zz_ti (x : Int32) : zz_i x.toInt = x := Int32.ofInt_toInt x
theorem zz_i0 : zz_i 0 = 0 := rfl
theorem zz_l0 : zz_l 0 = 0 := rfl
theorem zz_i1 : zz_i 1 = 1 := rfl
theorem zz_l1 : zz_l 1 = 1 := rfl
theorem zz_im1 : zz_i (-1) = -1 := rfl
theorem zz_imul (a b : Int) : zz_i a * zz_i b = zz_i (a * b) := (Int32.ofInt_mul a b).symm
theorem zz_isub (a b : Int) : zz_i a - zz_i b = zz_i (a - b) := (Int32.ofInt_sub a b).symm
theorem zz_iadd (a b : Int) : zz_i a + zz_i b = zz_i (a + b) := (Int32.ofInt_add a b).symm
theorem zz_ineg (a : Int) : -zz_i a = zz_i (-a) := (Int32.ofInt_neg a).symm
theorem zz_lmul (a b : Int) : zz_l a * zz_l b = zz_l (a * b) := (Int64.ofInt_mul a b).symm
theorem zz_lsub (a b : Int) : zz_l a - zz_l b = zz_l (a - b) := (Int64.ofInt_sub a b).symm
theorem zz_lneg (a : Int) : -zz_l a = zz_l (-a) := (Int64.ofInt_neg a).symm
theorem zz_idiv {a b : Int} (ha : a.natAbs < 2147483648) (hb : b.natAbs < 2147483648) : zz_i a / zz_i b = zz_i (a.tdiv b) :=
  (Int32.ofInt_tdiv (by rw [Int32.toInt_minValue]; omega) (by rw [Int32.toInt_maxValue]; omega) (by rw [Int32.toInt_minValue]; omega) (by rw [Int32.toInt_maxValue]; omega)).symm
theorem zz_ldiv {a b : Int} (ha : a.natAbs < 9223372036854775808) (hb : b.natAbs < 9223372036854775808) : zz_l a / zz_l b = zz_l (a.tdiv b) :=
  (Int64.ofInt_tdiv (by rw [Int64.toInt_minValue]; omega) (by rw [Int64.toInt_maxValue]; omega) (by rw [Int64.toInt_minValue]; omega) (by rw [Int64.toInt_maxValue]; omega)).symm
theorem zz_ile {a b : Int} (ha : a.natAbs < 2147483648) (hb : b.natAbs < 2147483648) : zz_i a ≤ zz_i b ↔ a ≤ b := by rw [Int32.le_iff_toInt_le, zz_it ha, zz_it hb]
theorem zz_ilt {a b : Int} (ha : a.natAbs < 2147483648) (hb : b.natAbs < 2147483648) : zz_i a < zz_i b ↔ a < b := by rw [Int32.lt_iff_toInt_lt, zz_it ha, zz_it hb]
theorem zz_ieq {a b : Int} (ha : a.natAbs < 2147483648) (hb : b.natAbs < 2147483648) : zz_i a = zz_i b ↔ a = b := by rw [← Int32.toInt_inj, zz_it ha, zz_it hb]
theorem zz_lle {a b : Int} (ha : a.natAbs < 9223372036854775808) (hb : b.natAbs < 9223372036854775808) : zz_l a ≤ zz_l b ↔ a ≤ b := by rw [Int64.le_iff_toInt_le, zz_lt ha, zz_lt hb]
theorem zz_llt {a b : Int} (ha : a.natAbs < 9223372036854775808) (hb : b.natAbs < 9223372036854775808) : zz_l a < zz_l b ↔ a < b := by rw [Int64.lt_iff_toInt_lt, zz_lt ha, zz_lt hb]
theorem zz_leq {a b : Int} (ha : a.natAbs < 9223372036854775808) (hb : b.natAbs < 9223372036854775808) : zz_l a = zz_l b ↔ a = b := by rw [← Int64.toInt_inj, zz_lt ha, zz_lt hb]
theorem zz_ie0 {a : Int} (ha : a.natAbs < 2147483648) : zz_i a = 0 ↔ a = 0 := zz_ieq (b := 0) ha (by decide)
theorem zz_le0 {a : Int} (ha : a.natAbs < 9223372036854775808) : zz_l a = 0 ↔ a = 0 := zz_leq (b := 0) ha (by decide)
theorem zz_i0le {a : Int} (ha : a.natAbs < 2147483648) : 0 ≤ zz_i a ↔ 0 ≤ a := zz_ile (a := 0) (by decide) ha
theorem zz_l0le {a : Int} (ha : a.natAbs < 9223372036854775808) : 0 ≤ zz_l a ↔ 0 ≤ a := zz_lle (a := 0) (by decide) ha
theorem zz_l0lt {a : Int} (ha : a.natAbs < 9223372036854775808) : 0 < zz_l a ↔ 0 < a := zz_llt (a := 0) (by decide) ha
theorem zz_lle1 {a : Int} (ha : a.natAbs < 9223372036854775808) : zz_l a ≤ 1 ↔ a ≤ 1 := zz_lle (b := 1) ha (by decide)
theorem zz_il {a : Int} (ha : a.natAbs < 2147483648) : (zz_i a).toInt64 = zz_l a :=
  Int32.toInt64_ofInt (by rw [Int32.toInt_minValue]; omega) (by rw [Int32.toInt_maxValue]; omega)
theorem zz_li (a : Int) : (zz_l a).toInt32 = zz_i a := Int64.toInt32_ofInt
/-! indices -/
theorem zz_x (s j : Nat) : nI s * 8 + nI j = nI (8 * s + j) := by
  rw [show (8 : Int32) = nI 8 from rfl, pk_mul, nI_add, Nat.mul_comm]
theorem zz_y (s j : Nat) : 8 * nI s + nI j = nI (8 * s + j) := by
  rw [show (8 : Int32) = nI 8 from rfl, pk_mul, nI_add]
/-! bounds of sums and products -/
theorem zz_mb {a b : Int} {A B : Nat} (ha : a.natAbs ≤ A) (hb : b.natAbs ≤ B) : (a * b).natAbs ≤ A * B := by
  rw [Int.natAbs_mul]; exact Nat.mul_le_mul ha hb
/-! the greatest common divisor: both loops -/
theorem ze_x (post : Int32 → Prop) : ∀ (n y x s : Nat), y < n → x < 2 ^ 31 → y < 2 ^ 31 → s + y < 1000000 → post (nI (Nat.gcd x y)) → wX_commonDivisor_13 post n (nI x) (nI y) (nI s) := by
  intro n
  induction n with
  | zero => intro y x s h; omega
  | succ n ih =>
    intro y x s hn hx hy hs hp
    have h1 : ¬ (1000000 : Int32) ≤ nI s := nI_ge (b := 1000000) (by omega) (by decide)
    rw [wX_commonDivisor_13]
    refine br_f h1 ?_
    by_cases h0 : y = 0
    · subst h0
      rw [Nat.gcd_zero_right] at hp
      exact br_t nI_0 hp
    · have h2 : ¬ nI y = 0 := nI_ne0 (by omega) hy
      have hm : x % y < y := Nat.mod_lt _ (by omega)
      refine br_f h2 ⟨h2, nm_r (pk_rem hx (by omega) hy) (nm_r (nI_1 s) ?_)⟩
      refine ih (x % y) y (s + 1) (by omega) hy (by omega) (by omega) ?_
      rw [Nat.gcd_comm y, ← Nat.gcd_rec y x, Nat.gcd_comm]
      exact hp
theorem zz_abs {a : Int} (ha : a.natAbs < 2147483648) (h : 0 ≤ a) : zz_i a = nI a.natAbs := by
  rw [zz_n]; exact congrArg zz_i (by omega)
theorem zz_abn {a : Int} (ha : a.natAbs < 2147483648) (h : ¬ 0 ≤ a) : -zz_i a = nI a.natAbs := by
  rw [zz_n, zz_ineg]; exact congrArg zz_i (by omega)
theorem zz_lbs {a : Int} (h : 0 ≤ a) : zz_l a = lN a.natAbs := by
  rw [zz_nl]; exact congrArg zz_l (by omega)
theorem zz_lbn {a : Int} (h : ¬ 0 ≤ a) : -zz_l a = lN a.natAbs := by
  rw [zz_nl, zz_lneg]; exact congrArg zz_l (by omega)
theorem ze_mag (post : Int32 → Prop) {a : Int} (ha : a.natAbs < 2147483648) (hp : post (nI a.natAbs)) : wpX_magnitude post (zz_i a) := by
  by_cases h : 0 ≤ a
  · exact br_t ((zz_i0le ha).mpr h) (by rw [zz_abs ha h]; exact hp)
  · exact br_f (fun z => h ((zz_i0le ha).mp z)) (by rw [zz_abn ha h]; exact hp)
theorem ze_cd (post : Int32 → Prop) {a b : Int} (ha : a.natAbs < 900000) (hb : b.natAbs < 900000) (hp : post (zz_i (Int.gcd a b))) : wpX_commonDivisor post (zz_i a) (zz_i b) := by
  unfold wpX_commonDivisor
  refine ze_mag _ (by omega) (ze_mag _ (by omega) ⟨b.natAbs + 1, ?_⟩)
  refine ze_x post _ b.natAbs a.natAbs 0 (by omega) (by omega) (by omega) (by omega) ?_
  rw [zz_n]; exact hp
