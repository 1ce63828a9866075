/-! the history of an elimination: ranks, pivots, the free column -/
def es_P (m S : Nat) (T : Nat → Int) (j : Nat) : Prop := S.testBit j = true ∧ es_t m j (es_run m S T j) < m
theorem es_kP {m S : Nat} {T : Nat → Int} {j : Nat} (h : es_P m S T j) : (es_run m S T (j + 1)).2.1 = (es_run m S T j).2.1 + 1 := by
  show (es_st m S j (es_run m S T j)).2.1 = _
  rw [es_b h.1 h.2]
theorem es_kN {m S : Nat} {T : Nat → Int} {j : Nat} (h : ¬ es_P m S T j) : (es_run m S T (j + 1)).2.1 = (es_run m S T j).2.1 := by
  show (es_st m S j (es_run m S T j)).2.1 = _
  by_cases hb : S.testBit j = true
  · rw [es_c hb (fun z => h ⟨hb, z⟩)]
  · rw [es_a hb]
theorem es_oP {m S : Nat} {T : Nat → Int} {j : Nat} (h : S.testBit j = true → es_P m S T j) : (es_run m S T (j + 1)).2.2.1 = (es_run m S T j).2.2.1 ∧ (es_run m S T (j + 1)).2.2.2.1 = (es_run m S T j).2.2.2.1 := by
  show (es_st m S j (es_run m S T j)).2.2.1 = _ ∧ (es_st m S j (es_run m S T j)).2.2.2.1 = _
  by_cases hb : S.testBit j = true
  · rw [es_b hb (h hb).2]; exact ⟨rfl, rfl⟩
  · rw [es_a hb]; exact ⟨rfl, rfl⟩
theorem es_oN {m S : Nat} {T : Nat → Int} {j : Nat} (hb : S.testBit j = true) (h : ¬ es_P m S T j) : (es_run m S T (j + 1)).2.2.1 = (es_run m S T j).2.2.1 + 1 ∧ (es_run m S T (j + 1)).2.2.2.1 = j := by
  show (es_st m S j (es_run m S T j)).2.2.1 = _ ∧ (es_st m S j (es_run m S T j)).2.2.2.1 = _
  rw [es_c hb (fun z => h ⟨hb, z⟩)]; exact ⟨rfl, rfl⟩
theorem es_km {m S : Nat} {T : Nat → Int} {j : Nat} : ∀ n, j ≤ n → (es_run m S T j).2.1 ≤ (es_run m S T n).2.1 ∧ (es_run m S T j).2.2.1 ≤ (es_run m S T n).2.2.1 := by
  intro n
  induction n with
  | zero => intro h; rw [show j = 0 by omega]; exact ⟨Nat.le_refl _, Nat.le_refl _⟩
  | succ n ih =>
    intro h
    by_cases hj : j = n + 1
    · rw [hj]; exact ⟨Nat.le_refl _, Nat.le_refl _⟩
    · obtain ⟨h1, h2⟩ := ih (by omega)
      constructor
      · by_cases hp : es_P m S T n
        · rw [es_kP hp]; omega
        · rw [es_kN hp]; omega
      · by_cases hb : S.testBit n = true
        · by_cases hp : es_P m S T n
          · rw [(es_oP (fun _ => hp)).1]; omega
          · rw [(es_oN hb hp).1]; omega
        · rw [(es_oP (fun z => absurd z hb)).1]; omega
theorem es_pf {m S : Nat} {T : Nat → Int} {j : Nat} (hP : es_P m S T j) : ∀ n, j < n → (es_run m S T n).2.2.2.2.2 (es_run m S T j).2.1 = j := by
  intro n
  induction n with
  | zero => intro h; omega
  | succ n ih =>
    intro h
    show (es_st m S n (es_run m S T n)).2.2.2.2.2 _ = _
    by_cases hj : j = n
    · subst hj
      rw [es_b hP.1 hP.2]
      exact if_pos rfl
    · have hk : (es_run m S T j).2.1 < (es_run m S T n).2.1 := by
        have h1 := (es_km (m := m) (S := S) (T := T) (j := j + 1) n (by omega)).1
        rw [es_kP hP] at h1; omega
      by_cases hb : S.testBit n = true
      · by_cases ht : es_t m n (es_run m S T n) < m
        · rw [es_b hb ht]
          show (if _ = _ then _ else _) = _
          rw [if_neg (by omega)]; exact ih (by omega)
        · rw [es_c hb ht]; exact ih (by omega)
      · rw [es_a hb]; exact ih (by omega)
theorem es_ex {m S : Nat} {T : Nat → Int} {i : Nat} : ∀ n, i < (es_run m S T n).2.1 → ∃ j, j < n ∧ es_P m S T j ∧ (es_run m S T j).2.1 = i := by
  intro n
  induction n with
  | zero => intro h; exact absurd h (Nat.not_lt_zero _)
  | succ n ih =>
    intro h
    by_cases hp : es_P m S T n
    · rw [es_kP hp] at h
      by_cases hi : i = (es_run m S T n).2.1
      · exact ⟨n, by omega, hp, hi.symm⟩
      · obtain ⟨j, h1, h2, h3⟩ := ih (by omega)
        exact ⟨j, by omega, h2, h3⟩
    · rw [es_kN hp] at h
      obtain ⟨j, h1, h2, h3⟩ := ih h
      exact ⟨j, by omega, h2, h3⟩
theorem es_of {m S : Nat} {T : Nat → Int} : ∀ n, 1 ≤ (es_run m S T n).2.2.1 → (es_run m S T n).2.2.2.1 < n ∧ S.testBit (es_run m S T n).2.2.2.1 = true ∧ ¬ es_P m S T (es_run m S T n).2.2.2.1 := by
  intro n
  induction n with
  | zero => intro h; exact absurd h (Nat.not_lt_zero _)
  | succ n ih =>
    intro h
    by_cases hq : S.testBit n = true → es_P m S T n
    · obtain ⟨h1, h2⟩ := es_oP hq
      rw [h1] at h
      rw [h2]
      obtain ⟨a, b, c⟩ := ih h
      exact ⟨by omega, b, c⟩
    · have hb : S.testBit n = true := Classical.byContradiction (fun z => hq (fun y => absurd y z))
      have hp : ¬ es_P m S T n := fun z => hq (fun _ => z)
      rw [(es_oN hb hp).2]
      exact ⟨by omega, hb, hp⟩
theorem es_on {m S : Nat} {T : Nat → Int} {j : Nat} (hb : S.testBit j = true) (hp : ¬ es_P m S T j) : ∀ n, j < n → 1 ≤ (es_run m S T n).2.2.1 ∧ ((es_run m S T n).2.2.1 = 1 → (es_run m S T n).2.2.2.1 = j) := by
  intro n
  induction n with
  | zero => intro h; omega
  | succ n ih =>
    intro h
    by_cases hj : j = n
    · subst hj
      obtain ⟨h1, h2⟩ := es_oN hb hp
      exact ⟨by omega, fun _ => h2⟩
    · obtain ⟨i1, i2⟩ := ih (by omega)
      by_cases hq : S.testBit n = true → es_P m S T n
      · obtain ⟨h1, h2⟩ := es_oP hq
        exact ⟨by omega, fun z => by rw [h2]; exact i2 (by omega)⟩
      · have hb' : S.testBit n = true := Classical.byContradiction (fun z => hq (fun y => absurd y z))
        obtain ⟨h1, h2⟩ := es_oN hb' (fun z => hq (fun _ => z))
        exact ⟨by omega, fun z => by omega⟩
def es_n (S : Nat) : Nat → Nat
  | 0 => 0
  | j + 1 => es_n S j + (if S.testBit j = true then 1 else 0)
theorem es_cnt {m S : Nat} {T : Nat → Int} : ∀ n, (es_run m S T n).2.1 + (es_run m S T n).2.2.1 = es_n S n := by
  intro n
  induction n with
  | zero => rfl
  | succ n ih =>
    show _ = es_n S n + _
    by_cases hb : S.testBit n = true
    · rw [if_pos hb]
      by_cases hp : es_P m S T n
      · rw [es_kP hp, (es_oP (fun _ => hp)).1]; omega
      · rw [es_kN hp, (es_oN hb hp).1]; omega
    · rw [if_neg hb, es_kN (fun z => hb z.1), (es_oP (fun z => absurd z hb)).1]; omega
/-- the candidate that the finished elimination leaves -/
noncomputable def es_v (m S : Nat) (T : Nat → Int) (j : Nat) : Int :=
  @ite _ (es_P m S T j) (Classical.propDecidable _) (-(es_run m S T 8).1 (8 * (es_run m S T j).2.1 + (es_run m S T 8).2.2.2.1))
    (if j = (es_run m S T 8).2.2.2.1 then (es_run m S T 8).2.2.2.2.1 else 0)
theorem es_vP {m S : Nat} {T : Nat → Int} {j : Nat} (h : es_P m S T j) : es_v m S T j = -(es_run m S T 8).1 (8 * (es_run m S T j).2.1 + (es_run m S T 8).2.2.2.1) := if_pos h
theorem es_vN {m S : Nat} {T : Nat → Int} {j : Nat} (h : ¬ es_P m S T j) : es_v m S T j = if j = (es_run m S T 8).2.2.2.1 then (es_run m S T 8).2.2.2.2.1 else 0 := if_neg h
theorem es_kl {m S : Nat} {T : Nat → Int} {j : Nat} (h : es_P m S T j) {n : Nat} (hj : j < n) : (es_run m S T j).2.1 < (es_run m S T n).2.1 := by
  have h1 := (es_km (m := m) (S := S) (T := T) (j := j + 1) n (by omega)).1
  rw [es_kP h] at h1; omega
theorem es_vb {m S : Nat} {T : Nat → Int} (hm : m ≤ 4) (hT : ∀ i, (T i).natAbs ≤ 3) (ho : 1 ≤ (es_run m S T 8).2.2.1) {j : Nat} (hj : j < 8) : (es_v m S T j).natAbs ≤ 1944 := by
  have hI := es_Ir (S := S) hm hT 8 (Nat.le_refl _)
  by_cases h : es_P m S T j
  · rw [es_vP h, Int.natAbs_neg]
    have h1 := es_kl h hj
    have h2 := (es_bd hm hI).2.2
    exact es_bW hm hI (by omega) (es_of 8 ho).1
  · rw [es_vN h]
    split
    · exact (es_bd hm hI).1
    · decide
