/-! the reference's greatest common divisor, and that of a row -/
section
variable (fm fr fc : Int32) (tA bA oA : Nat → Int32) (w : Nat → Int64) (sI : Nat → Int32) (vA : Nat → Int64) (uA nA xA : Nat → Int32)
theorem ze_3 {x y z k : Nat} (hz : z < y) (hx : y + z ≤ x) (h : (x + y) * 2 ^ (k + 1) ≤ 3 ^ (k + 1)) : (y + z) * 2 ^ k ≤ 3 ^ k := by
  rw [Nat.pow_succ, Nat.pow_succ] at h
  generalize 2 ^ k = P at h
  generalize 3 ^ k = Q at h
  have h1 : 3 * (y + z) ≤ 2 * (x + y) := by omega
  have h2 := Nat.mul_le_mul_right P h1
  have e1 : (x + y) * (P * 2) = 2 * (x + y) * P := by grind
  have e2 : 3 * (y + z) * P = 3 * ((y + z) * P) := by grind
  rw [e1] at h
  rw [e2] at h2
  omega
theorem ze_y (post : Int64 → Prop) : ∀ (k x y s n : Nat), y ≤ x → (x + y) * 2 ^ k ≤ 3 ^ k → s + k ≤ 100 → k < n → x < 2 ^ 63 → post (lN (Nat.gcd x y)) → wY_divisor_31 post fm fr fc tA bA oA w sI vA uA nA xA n (lN x) (lN y) (nI s) := by
  intro k
  induction k with
  | zero =>
    intro x y s n hy hb hs hn hx hp
    obtain ⟨n, rfl⟩ : ∃ k, n = k + 1 := ⟨n - 1, by omega⟩
    have h0 : y = 0 := by omega
    subst h0
    rw [Nat.gcd_zero_right] at hp
    rw [wY_divisor_31]
    exact pk_le 100 s (fun _ => hp) (fun _ => br_t rfl hp)
  | succ k ih =>
    intro x y s n hy hb hs hn hx hp
    obtain ⟨n, rfl⟩ : ∃ k, n = k + 1 := ⟨n - 1, by omega⟩
    rw [wY_divisor_31]
    refine pk_le 100 s (fun h => by omega) (fun _ => ?_)
    by_cases h0 : y = 0
    · subst h0
      rw [Nat.gcd_zero_right] at hp
      exact br_t rfl hp
    · have hz : x % y < y := Nat.mod_lt _ (by omega)
      have hx2 : y + x % y ≤ x := by
        have h1 := Nat.div_add_mod x y
        have h2 : 1 ≤ x / y := (Nat.one_le_div_iff (by omega)).mpr hy
        have h3 := Nat.mul_le_mul_left y h2
        omega
      have h2 : ¬ lN y = 0 := fun z => h0 ((pk_lEQ (b := 0) (by omega) (by decide)).mp z)
      refine br_f h2 ⟨h2, nm_r (pk_lRem hx (by omega) (by omega)) (nm_r (nI_1 s) ?_)⟩
      refine ih y (x % y) (s + 1) n (by omega) (ze_3 hz hx2 hb) (by omega) (by omega) (by omega) ?_
      rw [Nat.gcd_comm y, ← Nat.gcd_rec y x, Nat.gcd_comm]
      exact hp
theorem ze_y0 (post : Int64 → Prop) {x y : Nat} (hx : x ≤ 36028797018963968) (hy : y ≤ 36028797018963968) (hp : post (lN (Nat.gcd x y))) : ∃ n, wY_divisor_31 post fm fr fc tA bA oA w sI vA uA nA xA n (lN x) (lN y) 0 := by
  by_cases h : y ≤ x
  · refine ⟨101, ze_y fm fr fc tA bA oA w sI vA uA nA xA post 100 x y 0 101 h ?_ (by decide) (by decide) (by omega) hp⟩
    exact Nat.le_trans (Nat.mul_le_mul_right _ (show x + y ≤ 72057594037927936 by omega)) (by decide)
  · refine ⟨101, ?_⟩
    rw [wY_divisor_31]
    refine pk_le 100 0 (fun h => by omega) (fun _ => ?_)
    have h2 : ¬ lN y = 0 := fun z => by have := (pk_lEQ (b := 0) (by omega) (by decide)).mp z; omega
    have hm : x % y = x := Nat.mod_eq_of_lt (by omega)
    refine br_f h2 ⟨h2, nm_r (pk_lRem (by omega) (by omega) (by omega)) (nm_r (nI_1 0) ?_)⟩
    rw [hm]
    refine ze_y fm fr fc tA bA oA w sI vA uA nA xA post 99 y x 1 100 (by omega) ?_ (by decide) (by decide) (by omega) (by rw [Nat.gcd_comm]; exact hp)
    exact Nat.le_trans (Nat.mul_le_mul_right _ (show y + x ≤ 72057594037927936 by omega)) (by decide)
end
theorem yw_div (post : Int64 → Prop) (u : SY) {a b : Int} (ha : a.natAbs ≤ 36028797018963968) (hb : b.natAbs ≤ 36028797018963968) (hp : post (zz_l (Int.gcd a b))) : wpY_divisor post u (zz_l a) (zz_l b) := by
  obtain ⟨fm, fr, fc, tA, bA, oA, w, sI, vA, uA, nA, xA⟩ := u
  have hp' : post (lN (Nat.gcd a.natAbs b.natAbs)) := by rw [zz_nl]; exact hp
  have H := ze_y0 fm fr fc tA bA oA w sI vA uA nA xA post ha hb hp'
  have H2 : wY_divisor_12 post (zz_l b) (lN a.natAbs) fm fr fc tA bA oA w sI vA uA nA xA := by
    by_cases h : 0 ≤ b
    · refine br_t ((zz_l0le (by omega)).mpr h) ?_
      rw [zz_lbs h]; exact H
    · refine br_f (fun z => h ((zz_l0le (by omega)).mp z)) (nm_r (zz_lbn h) H)
  by_cases h : 0 ≤ a
  · refine br_t ((zz_l0le (by omega)).mpr h) ?_
    rw [zz_lbs h]; exact H2
  · refine br_f (fun z => h ((zz_l0le (by omega)).mp z)) ?_
    rw [zz_lbn h]; exact H2
def zz_gg (f : Nat → Int) : Nat → Nat
  | 0 => 0
  | n + 1 => Nat.gcd (zz_gg f n) (f n).natAbs
theorem gg_s (f : Nat → Int) (n : Nat) : Int.gcd (zz_gg f n : Int) (f n) = zz_gg f (n + 1) := rfl
theorem gg_c {f g : Nat → Int} : ∀ n, (∀ c, c < n → f c = g c) → zz_gg f n = zz_gg g n := by
  intro n
  induction n with
  | zero => intro _; rfl
  | succ n ih =>
    intro h
    show Nat.gcd _ _ = Nat.gcd _ _
    rw [ih (fun c hc => h c (by omega)), h n (by omega)]
theorem gg_m (a : Int) (f : Nat → Int) : ∀ n, zz_gg (fun c => a * f c) n = a.natAbs * zz_gg f n := by
  intro n
  induction n with
  | zero => rfl
  | succ n ih =>
    show Nat.gcd (zz_gg (fun c => a * f c) n) (a * f n).natAbs = a.natAbs * Nat.gcd (zz_gg f n) (f n).natAbs
    rw [ih, Int.natAbs_mul, Nat.gcd_mul_left]
theorem gg_d {f : Nat → Int} : ∀ n c, c < n → zz_gg f n ∣ (f c).natAbs := by
  intro n
  induction n with
  | zero => intro c hc; omega
  | succ n ih =>
    intro c hc
    by_cases h : c = n
    · rw [h]; exact Nat.gcd_dvd_right _ _
    · exact Nat.dvd_trans (Nat.gcd_dvd_left _ _) (ih c (by omega))
theorem gg_o {f : Nat → Int} {k : Nat} : ∀ n, (∀ c, c < n → k ∣ (f c).natAbs) → k ∣ zz_gg f n := by
  intro n
  induction n with
  | zero => intro _; exact Nat.dvd_zero k
  | succ n ih => intro h; exact Nat.dvd_gcd (ih (fun c hc => h c (by omega))) (h n (by omega))
theorem gg_z {f : Nat → Int} {n : Nat} (h : zz_gg f n = 0) {c : Nat} (hc : c < n) : f c = 0 := by
  have := gg_d (f := f) n c hc
  rw [h] at this
  have := Nat.eq_zero_of_zero_dvd this
  omega
theorem gg_b {f : Nat → Int} {B : Nat} : ∀ n, (∀ c, c < n → (f c).natAbs ≤ B) → zz_gg f n ≤ B := by
  intro n
  induction n with
  | zero => intro _; exact Nat.zero_le _
  | succ n ih =>
    intro h
    have h1 := ih (fun c hc => h c (by omega))
    have h2 := h n (by omega)
    show Nat.gcd _ _ ≤ B
    by_cases hz : (f n).natAbs = 0
    · rw [hz, Nat.gcd_zero_right]; exact h1
    · exact Nat.le_trans (Nat.gcd_le_right _ (by omega)) h2
/-- a primitive vector on a line is no longer than any other whole one there -/
theorem gg_p {x y : Nat → Int} {α β : Int} {n : Nat} (hα : α ≠ 0) (hβ : β ≠ 0) (h : ∀ c, c < n → α * x c = β * y c) (h1 : zz_gg y n = 1) {c : Nat} (hc : c < n) : (y c).natAbs ≤ (x c).natAbs := by
  have h2 : α.natAbs ∣ zz_gg (fun c => β * y c) n := by
    refine gg_o n (fun c hc => ?_)
    show α.natAbs ∣ (β * y c).natAbs
    rw [← h c hc, Int.natAbs_mul]
    exact Nat.dvd_mul_right _ _
  rw [gg_m, h1, Nat.mul_one] at h2
  obtain ⟨s, hs⟩ := h2
  have h3 : α.natAbs * (x c).natAbs = α.natAbs * (s * (y c).natAbs) := by
    rw [← Int.natAbs_mul, h c hc, Int.natAbs_mul, hs, Nat.mul_assoc]
  have h4 := Nat.eq_of_mul_eq_mul_left (by omega) h3
  have hs0 : 1 ≤ s := by
    rcases Nat.eq_zero_or_pos s with h0 | h0
    · rw [h0, Nat.mul_zero] at hs; omega
    · exact h0
  rw [h4]
  exact Nat.le_mul_of_pos_left _ hs0
