/-! the pure elimination: what the matrix is after k pivots, and a step -/
def el_F (R : Nat → Nat → Int) (p : Nat → Nat) : Nat → Nat → Nat → Int
  | 0, q, c => R q c
  | 1, 0, c => R 0 c
  | 1, q + 1, c => dt_2 (R 0 (p 0)) (R 0 c) (R (q + 1) (p 0)) (R (q + 1) c)
  | 2, 0, c => dt_2 (R 0 c) (R 0 (p 1)) (R 1 c) (R 1 (p 1))
  | 2, 1, c => dt_2 (R 0 (p 0)) (R 0 c) (R 1 (p 0)) (R 1 c)
  | 2, q + 2, c => dt_3 (R 0 (p 0)) (R 0 (p 1)) (R 0 c) (R 1 (p 0)) (R 1 (p 1)) (R 1 c) (R (q + 2) (p 0)) (R (q + 2) (p 1)) (R (q + 2) c)
  | 3, 0, c => dt_3 (R 0 c) (R 0 (p 1)) (R 0 (p 2)) (R 1 c) (R 1 (p 1)) (R 1 (p 2)) (R 2 c) (R 2 (p 1)) (R 2 (p 2))
  | 3, 1, c => dt_3 (R 0 (p 0)) (R 0 c) (R 0 (p 2)) (R 1 (p 0)) (R 1 c) (R 1 (p 2)) (R 2 (p 0)) (R 2 c) (R 2 (p 2))
  | 3, 2, c => dt_3 (R 0 (p 0)) (R 0 (p 1)) (R 0 c) (R 1 (p 0)) (R 1 (p 1)) (R 1 c) (R 2 (p 0)) (R 2 (p 1)) (R 2 c)
  | 3, q + 3, c => dt_4 (R 0 (p 0)) (R 0 (p 1)) (R 0 (p 2)) (R 0 c) (R 1 (p 0)) (R 1 (p 1)) (R 1 (p 2)) (R 1 c) (R 2 (p 0)) (R 2 (p 1)) (R 2 (p 2)) (R 2 c) (R (q + 3) (p 0)) (R (q + 3) (p 1)) (R (q + 3) (p 2)) (R (q + 3) c)
  | 4, 0, c => dt_4 (R 0 c) (R 0 (p 1)) (R 0 (p 2)) (R 0 (p 3)) (R 1 c) (R 1 (p 1)) (R 1 (p 2)) (R 1 (p 3)) (R 2 c) (R 2 (p 1)) (R 2 (p 2)) (R 2 (p 3)) (R 3 c) (R 3 (p 1)) (R 3 (p 2)) (R 3 (p 3))
  | 4, 1, c => dt_4 (R 0 (p 0)) (R 0 c) (R 0 (p 2)) (R 0 (p 3)) (R 1 (p 0)) (R 1 c) (R 1 (p 2)) (R 1 (p 3)) (R 2 (p 0)) (R 2 c) (R 2 (p 2)) (R 2 (p 3)) (R 3 (p 0)) (R 3 c) (R 3 (p 2)) (R 3 (p 3))
  | 4, 2, c => dt_4 (R 0 (p 0)) (R 0 (p 1)) (R 0 c) (R 0 (p 3)) (R 1 (p 0)) (R 1 (p 1)) (R 1 c) (R 1 (p 3)) (R 2 (p 0)) (R 2 (p 1)) (R 2 c) (R 2 (p 3)) (R 3 (p 0)) (R 3 (p 1)) (R 3 c) (R 3 (p 3))
  | 4, 3, c => dt_4 (R 0 (p 0)) (R 0 (p 1)) (R 0 (p 2)) (R 0 c) (R 1 (p 0)) (R 1 (p 1)) (R 1 (p 2)) (R 1 c) (R 2 (p 0)) (R 2 (p 1)) (R 2 (p 2)) (R 2 c) (R 3 (p 0)) (R 3 (p 1)) (R 3 (p 2)) (R 3 c)
  | _, _, _ => 0
def el_D (R : Nat → Nat → Int) (p : Nat → Nat) : Nat → Int
  | 0 => 1
  | 1 => R 0 (p 0)
  | 2 => dt_2 (R 0 (p 0)) (R 0 (p 1)) (R 1 (p 0)) (R 1 (p 1))
  | 3 => dt_3 (R 0 (p 0)) (R 0 (p 1)) (R 0 (p 2)) (R 1 (p 0)) (R 1 (p 1)) (R 1 (p 2)) (R 2 (p 0)) (R 2 (p 1)) (R 2 (p 2))
  | 4 => dt_4 (R 0 (p 0)) (R 0 (p 1)) (R 0 (p 2)) (R 0 (p 3)) (R 1 (p 0)) (R 1 (p 1)) (R 1 (p 2)) (R 1 (p 3)) (R 2 (p 0)) (R 2 (p 1)) (R 2 (p 2)) (R 2 (p 3)) (R 3 (p 0)) (R 3 (p 1)) (R 3 (p 2)) (R 3 (p 3))
  | _ => 0
theorem el_c4 {P : Nat → Prop} (h0 : P 0) (h1 : P 1) (h2 : P 2) (h3 : P 3) {i : Nat} (hi : i < 4) : P i := by
  match i, hi with
  | 0, _ => exact h0
  | 1, _ => exact h1
  | 2, _ => exact h2
  | 3, _ => exact h3
theorem el_step (R : Nat → Nat → Int) (p : Nat → Nat) (j c : Nat) : ∀ k, k < 4 → ∀ q, q < 4 → q ≠ k → el_F R p k q c * el_F R p k k j - el_F R p k k c * el_F R p k q j = el_D R p k * el_F R (fun i => if i = k then j else p i) (k + 1) q c := by
  refine fun k hk => el_c4 (P := fun k => ∀ q, q < 4 → q ≠ k → el_F R p k q c * el_F R p k k j - el_F R p k k c * el_F R p k q j = el_D R p k * el_F R (fun i => if i = k then j else p i) (k + 1) q c) ?_ ?_ ?_ ?_ hk
  · refine fun q hq => el_c4 (P := fun q => q ≠ 0 → el_F R p 0 q c * el_F R p 0 0 j - el_F R p 0 0 c * el_F R p 0 q j = el_D R p 0 * el_F R (fun i => if i = 0 then j else p i) (0 + 1) q c) ?_ ?_ ?_ ?_ hq
    · intro h; exact absurd rfl h
    · intro _
      show R 1 c * R 0 j - R 0 c * R 1 j = 1 * dt_2 (R 0 j) (R 0 c) (R 1 j) (R 1 c)
      unfold dt_2; grind
    · intro _
      show R 2 c * R 0 j - R 0 c * R 2 j = 1 * dt_2 (R 0 j) (R 0 c) (R 2 j) (R 2 c)
      unfold dt_2; grind
    · intro _
      show R 3 c * R 0 j - R 0 c * R 3 j = 1 * dt_2 (R 0 j) (R 0 c) (R 3 j) (R 3 c)
      unfold dt_2; grind
  · refine fun q hq => el_c4 (P := fun q => q ≠ 1 → el_F R p 1 q c * el_F R p 1 1 j - el_F R p 1 1 c * el_F R p 1 q j = el_D R p 1 * el_F R (fun i => if i = 1 then j else p i) (1 + 1) q c) ?_ ?_ ?_ ?_ hq
    · intro _
      exact dt_i1 (R 0 (p 0)) (R 0 (j)) (R 0 (c)) (R 1 (p 0)) (R 1 (j)) (R 1 (c))
    · intro h; exact absurd rfl h
    · intro _
      exact dt_i2 (R 0 (p 0)) (R 0 (j)) (R 0 (c)) (R 1 (p 0)) (R 1 (j)) (R 1 (c)) (R 2 (p 0)) (R 2 (j)) (R 2 (c))
    · intro _
      exact dt_i2 (R 0 (p 0)) (R 0 (j)) (R 0 (c)) (R 1 (p 0)) (R 1 (j)) (R 1 (c)) (R 3 (p 0)) (R 3 (j)) (R 3 (c))
  · refine fun q hq => el_c4 (P := fun q => q ≠ 2 → el_F R p 2 q c * el_F R p 2 2 j - el_F R p 2 2 c * el_F R p 2 q j = el_D R p 2 * el_F R (fun i => if i = 2 then j else p i) (2 + 1) q c) ?_ ?_ ?_ ?_ hq
    · intro _
      exact dt_i3 (R 0 (p 0)) (R 0 (p 1)) (R 0 (j)) (R 0 (c)) (R 1 (p 0)) (R 1 (p 1)) (R 1 (j)) (R 1 (c)) (R 2 (p 0)) (R 2 (p 1)) (R 2 (j)) (R 2 (c))
    · intro _
      exact dt_i4 (R 0 (p 0)) (R 0 (p 1)) (R 0 (j)) (R 0 (c)) (R 1 (p 0)) (R 1 (p 1)) (R 1 (j)) (R 1 (c)) (R 2 (p 0)) (R 2 (p 1)) (R 2 (j)) (R 2 (c))
    · intro h; exact absurd rfl h
    · intro _
      exact dt_i5 (R 0 (p 0)) (R 0 (p 1)) (R 0 (j)) (R 0 (c)) (R 1 (p 0)) (R 1 (p 1)) (R 1 (j)) (R 1 (c)) (R 2 (p 0)) (R 2 (p 1)) (R 2 (j)) (R 2 (c)) (R 3 (p 0)) (R 3 (p 1)) (R 3 (j)) (R 3 (c))
  · refine fun q hq => el_c4 (P := fun q => q ≠ 3 → el_F R p 3 q c * el_F R p 3 3 j - el_F R p 3 3 c * el_F R p 3 q j = el_D R p 3 * el_F R (fun i => if i = 3 then j else p i) (3 + 1) q c) ?_ ?_ ?_ ?_ hq
    · intro _
      exact dt_i6 (R 0 (p 0)) (R 0 (p 1)) (R 0 (p 2)) (R 0 (j)) (R 0 (c)) (R 1 (p 0)) (R 1 (p 1)) (R 1 (p 2)) (R 1 (j)) (R 1 (c)) (R 2 (p 0)) (R 2 (p 1)) (R 2 (p 2)) (R 2 (j)) (R 2 (c)) (R 3 (p 0)) (R 3 (p 1)) (R 3 (p 2)) (R 3 (j)) (R 3 (c))
    · intro _
      exact dt_i7 (R 0 (p 0)) (R 0 (p 1)) (R 0 (p 2)) (R 0 (j)) (R 0 (c)) (R 1 (p 0)) (R 1 (p 1)) (R 1 (p 2)) (R 1 (j)) (R 1 (c)) (R 2 (p 0)) (R 2 (p 1)) (R 2 (p 2)) (R 2 (j)) (R 2 (c)) (R 3 (p 0)) (R 3 (p 1)) (R 3 (p 2)) (R 3 (j)) (R 3 (c))
    · intro _
      exact dt_i8 (R 0 (p 0)) (R 0 (p 1)) (R 0 (p 2)) (R 0 (j)) (R 0 (c)) (R 1 (p 0)) (R 1 (p 1)) (R 1 (p 2)) (R 1 (j)) (R 1 (c)) (R 2 (p 0)) (R 2 (p 1)) (R 2 (p 2)) (R 2 (j)) (R 2 (c)) (R 3 (p 0)) (R 3 (p 1)) (R 3 (p 2)) (R 3 (j)) (R 3 (c))
    · intro h; exact absurd rfl h
theorem el_row (R : Nat → Nat → Int) (p : Nat → Nat) (j c : Nat) : ∀ k, k < 4 → el_F R p k k c = el_F R (fun i => if i = k then j else p i) (k + 1) k c :=
  fun k hk => el_c4 (P := fun k => el_F R p k k c = el_F R (fun i => if i = k then j else p i) (k + 1) k c) rfl rfl rfl rfl hk
theorem el_piv (R : Nat → Nat → Int) (p : Nat → Nat) (j : Nat) : ∀ k, k < 4 → el_D R (fun i => if i = k then j else p i) (k + 1) = el_F R p k k j :=
  fun k hk => el_c4 (P := fun k => el_D R (fun i => if i = k then j else p i) (k + 1) = el_F R p k k j) rfl rfl rfl rfl hk
theorem el_c5 {P : Nat → Prop} (h0 : P 0) (h1 : P 1) (h2 : P 2) (h3 : P 3) (h4 : P 4) {i : Nat} (hi : i ≤ 4) : P i := by
  match i, hi with
  | 0, _ => exact h0
  | 1, _ => exact h1
  | 2, _ => exact h2
  | 3, _ => exact h3
  | 4, _ => exact h4
theorem el_dia (R : Nat → Nat → Int) (p : Nat → Nat) : ∀ k, k ≤ 4 → ∀ i, i < k → el_F R p k i (p i) = el_D R p k := by
  refine fun k hk => el_c5 (P := fun k => ∀ i, i < k → el_F R p k i (p i) = el_D R p k) ?_ ?_ ?_ ?_ ?_ hk
  · intro i hi; omega
  · intro i hi
    match i, hi with
    | 0, _ => rfl
  · intro i hi
    match i, hi with
    | 0, _ => rfl
    | 1, _ => rfl
  · intro i hi
    match i, hi with
    | 0, _ => rfl
    | 1, _ => rfl
    | 2, _ => rfl
  · intro i hi
    match i, hi with
    | 0, _ => rfl
    | 1, _ => rfl
    | 2, _ => rfl
    | 3, _ => rfl
def el_S (R : Nat → Nat → Int) (s t : Nat) : Nat → Nat → Int := fun q c => if q = s then R t c else if q = t then R s c else R q c
