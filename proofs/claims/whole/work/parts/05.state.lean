/-! exchange of rows, bounds, the state of an elimination and its invariant -/
theorem el_sw (R : Nat → Nat → Int) (p : Nat → Nat) (c : Nat) : ∀ k, k < 4 → ∀ t, t < 4 → k ≤ t → ∀ q, q < 4 → el_F (el_S R k t) p k q c = if q = k then el_F R p k t c else if q = t then el_F R p k k c else el_F R p k q c := by
  refine fun k hk => el_c4 (P := fun k => ∀ t, t < 4 → k ≤ t → ∀ q, q < 4 → el_F (el_S R k t) p k q c = if q = k then el_F R p k t c else if q = t then el_F R p k k c else el_F R p k q c) ?_ ?_ ?_ ?_ hk
  · refine fun t ht => el_c4 (P := fun t => 0 ≤ t → ∀ q, q < 4 → el_F (el_S R 0 t) p 0 q c = if q = 0 then el_F R p 0 t c else if q = t then el_F R p 0 0 c else el_F R p 0 q c) ?_ ?_ ?_ ?_ ht
    · exact fun _ q hq => el_c4 (P := fun q => el_F (el_S R 0 0) p 0 q c = if q = 0 then el_F R p 0 0 c else if q = 0 then el_F R p 0 0 c else el_F R p 0 q c) rfl rfl rfl rfl hq
    · exact fun _ q hq => el_c4 (P := fun q => el_F (el_S R 0 1) p 0 q c = if q = 0 then el_F R p 0 1 c else if q = 1 then el_F R p 0 0 c else el_F R p 0 q c) rfl rfl rfl rfl hq
    · exact fun _ q hq => el_c4 (P := fun q => el_F (el_S R 0 2) p 0 q c = if q = 0 then el_F R p 0 2 c else if q = 2 then el_F R p 0 0 c else el_F R p 0 q c) rfl rfl rfl rfl hq
    · exact fun _ q hq => el_c4 (P := fun q => el_F (el_S R 0 3) p 0 q c = if q = 0 then el_F R p 0 3 c else if q = 3 then el_F R p 0 0 c else el_F R p 0 q c) rfl rfl rfl rfl hq
  · refine fun t ht => el_c4 (P := fun t => 1 ≤ t → ∀ q, q < 4 → el_F (el_S R 1 t) p 1 q c = if q = 1 then el_F R p 1 t c else if q = t then el_F R p 1 1 c else el_F R p 1 q c) ?_ ?_ ?_ ?_ ht
    · intro h; omega
    · exact fun _ q hq => el_c4 (P := fun q => el_F (el_S R 1 1) p 1 q c = if q = 1 then el_F R p 1 1 c else if q = 1 then el_F R p 1 1 c else el_F R p 1 q c) rfl rfl rfl rfl hq
    · exact fun _ q hq => el_c4 (P := fun q => el_F (el_S R 1 2) p 1 q c = if q = 1 then el_F R p 1 2 c else if q = 2 then el_F R p 1 1 c else el_F R p 1 q c) rfl rfl rfl rfl hq
    · exact fun _ q hq => el_c4 (P := fun q => el_F (el_S R 1 3) p 1 q c = if q = 1 then el_F R p 1 3 c else if q = 3 then el_F R p 1 1 c else el_F R p 1 q c) rfl rfl rfl rfl hq
  · refine fun t ht => el_c4 (P := fun t => 2 ≤ t → ∀ q, q < 4 → el_F (el_S R 2 t) p 2 q c = if q = 2 then el_F R p 2 t c else if q = t then el_F R p 2 2 c else el_F R p 2 q c) ?_ ?_ ?_ ?_ ht
    · intro h; omega
    · intro h; omega
    · exact fun _ q hq => el_c4 (P := fun q => el_F (el_S R 2 2) p 2 q c = if q = 2 then el_F R p 2 2 c else if q = 2 then el_F R p 2 2 c else el_F R p 2 q c) rfl rfl rfl rfl hq
    · exact fun _ q hq => el_c4 (P := fun q => el_F (el_S R 2 3) p 2 q c = if q = 2 then el_F R p 2 3 c else if q = 3 then el_F R p 2 2 c else el_F R p 2 q c) rfl rfl rfl rfl hq
  · refine fun t ht => el_c4 (P := fun t => 3 ≤ t → ∀ q, q < 4 → el_F (el_S R 3 t) p 3 q c = if q = 3 then el_F R p 3 t c else if q = t then el_F R p 3 3 c else el_F R p 3 q c) ?_ ?_ ?_ ?_ ht
    · intro h; omega
    · intro h; omega
    · intro h; omega
    · exact fun _ q hq => el_c4 (P := fun q => el_F (el_S R 3 3) p 3 q c = if q = 3 then el_F R p 3 3 c else if q = 3 then el_F R p 3 3 c else el_F R p 3 q c) rfl rfl rfl rfl hq
theorem el_swD (R : Nat → Nat → Int) (p : Nat → Nat) : ∀ k, k < 4 → ∀ t, t < 4 → k ≤ t → el_D (el_S R k t) p k = el_D R p k := by
  refine fun k hk => el_c4 (P := fun k => ∀ t, t < 4 → k ≤ t → el_D (el_S R k t) p k = el_D R p k) ?_ ?_ ?_ ?_ hk
  · refine fun t ht => el_c4 (P := fun t => 0 ≤ t → el_D (el_S R 0 t) p 0 = el_D R p 0) ?_ ?_ ?_ ?_ ht
    · exact fun _ => rfl
    · exact fun _ => rfl
    · exact fun _ => rfl
    · exact fun _ => rfl
  · refine fun t ht => el_c4 (P := fun t => 1 ≤ t → el_D (el_S R 1 t) p 1 = el_D R p 1) ?_ ?_ ?_ ?_ ht
    · intro h; omega
    · exact fun _ => rfl
    · exact fun _ => rfl
    · exact fun _ => rfl
  · refine fun t ht => el_c4 (P := fun t => 2 ≤ t → el_D (el_S R 2 t) p 2 = el_D R p 2) ?_ ?_ ?_ ?_ ht
    · intro h; omega
    · intro h; omega
    · exact fun _ => rfl
    · exact fun _ => rfl
  · refine fun t ht => el_c4 (P := fun t => 3 ≤ t → el_D (el_S R 3 t) p 3 = el_D R p 3) ?_ ?_ ?_ ?_ ht
    · intro h; omega
    · intro h; omega
    · intro h; omega
    · exact fun _ => rfl
theorem el_bd (R : Nat → Nat → Int) (p : Nat → Nat) (c : Nat) (hR : ∀ q c, (R q c).natAbs ≤ 3) : ∀ k, k ≤ 4 → ∀ q, q < 4 → (el_F R p k q c).natAbs ≤ 1944 := by
  refine fun k hk => el_c5 (P := fun k => ∀ q, q < 4 → (el_F R p k q c).natAbs ≤ 1944) ?_ ?_ ?_ ?_ ?_ hk
  · refine fun q hq => el_c4 (P := fun q => (el_F R p 0 q c).natAbs ≤ 1944) ?_ ?_ ?_ ?_ hq
    · exact Nat.le_trans (hR _ _) (by decide)
    · exact Nat.le_trans (hR _ _) (by decide)
    · exact Nat.le_trans (hR _ _) (by decide)
    · exact Nat.le_trans (hR _ _) (by decide)
  · refine fun q hq => el_c4 (P := fun q => (el_F R p 1 q c).natAbs ≤ 1944) ?_ ?_ ?_ ?_ hq
    · exact Nat.le_trans (hR _ _) (by decide)
    · exact Nat.le_trans (dt_b2 (hR _ _) (hR _ _) (hR _ _) (hR _ _)) (by decide)
    · exact Nat.le_trans (dt_b2 (hR _ _) (hR _ _) (hR _ _) (hR _ _)) (by decide)
    · exact Nat.le_trans (dt_b2 (hR _ _) (hR _ _) (hR _ _) (hR _ _)) (by decide)
  · refine fun q hq => el_c4 (P := fun q => (el_F R p 2 q c).natAbs ≤ 1944) ?_ ?_ ?_ ?_ hq
    · exact Nat.le_trans (dt_b2 (hR _ _) (hR _ _) (hR _ _) (hR _ _)) (by decide)
    · exact Nat.le_trans (dt_b2 (hR _ _) (hR _ _) (hR _ _) (hR _ _)) (by decide)
    · exact Nat.le_trans (dt_b3 (hR _ _) (hR _ _) (hR _ _) (hR _ _) (hR _ _) (hR _ _) (hR _ _) (hR _ _) (hR _ _)) (by decide)
    · exact Nat.le_trans (dt_b3 (hR _ _) (hR _ _) (hR _ _) (hR _ _) (hR _ _) (hR _ _) (hR _ _) (hR _ _) (hR _ _)) (by decide)
  · refine fun q hq => el_c4 (P := fun q => (el_F R p 3 q c).natAbs ≤ 1944) ?_ ?_ ?_ ?_ hq
    · exact Nat.le_trans (dt_b3 (hR _ _) (hR _ _) (hR _ _) (hR _ _) (hR _ _) (hR _ _) (hR _ _) (hR _ _) (hR _ _)) (by decide)
    · exact Nat.le_trans (dt_b3 (hR _ _) (hR _ _) (hR _ _) (hR _ _) (hR _ _) (hR _ _) (hR _ _) (hR _ _) (hR _ _)) (by decide)
    · exact Nat.le_trans (dt_b3 (hR _ _) (hR _ _) (hR _ _) (hR _ _) (hR _ _) (hR _ _) (hR _ _) (hR _ _) (hR _ _)) (by decide)
    · exact Nat.le_trans (dt_b4 (hR _ _) (hR _ _) (hR _ _) (hR _ _) (hR _ _) (hR _ _) (hR _ _) (hR _ _) (hR _ _) (hR _ _) (hR _ _) (hR _ _) (hR _ _) (hR _ _) (hR _ _) (hR _ _)) (by decide)
  · refine fun q hq => el_c4 (P := fun q => (el_F R p 4 q c).natAbs ≤ 1944) ?_ ?_ ?_ ?_ hq
    · exact Nat.le_trans (dt_b4 (hR _ _) (hR _ _) (hR _ _) (hR _ _) (hR _ _) (hR _ _) (hR _ _) (hR _ _) (hR _ _) (hR _ _) (hR _ _) (hR _ _) (hR _ _) (hR _ _) (hR _ _) (hR _ _)) (by decide)
    · exact Nat.le_trans (dt_b4 (hR _ _) (hR _ _) (hR _ _) (hR _ _) (hR _ _) (hR _ _) (hR _ _) (hR _ _) (hR _ _) (hR _ _) (hR _ _) (hR _ _) (hR _ _) (hR _ _) (hR _ _) (hR _ _)) (by decide)
    · exact Nat.le_trans (dt_b4 (hR _ _) (hR _ _) (hR _ _) (hR _ _) (hR _ _) (hR _ _) (hR _ _) (hR _ _) (hR _ _) (hR _ _) (hR _ _) (hR _ _) (hR _ _) (hR _ _) (hR _ _) (hR _ _)) (by decide)
    · exact Nat.le_trans (dt_b4 (hR _ _) (hR _ _) (hR _ _) (hR _ _) (hR _ _) (hR _ _) (hR _ _) (hR _ _) (hR _ _) (hR _ _) (hR _ _) (hR _ _) (hR _ _) (hR _ _) (hR _ _) (hR _ _)) (by decide)
theorem el_bD (R : Nat → Nat → Int) (p : Nat → Nat) (hR : ∀ q c, (R q c).natAbs ≤ 3) : ∀ k, k ≤ 4 → (el_D R p k).natAbs ≤ 1944 := by
  refine fun k hk => el_c5 (P := fun k => (el_D R p k).natAbs ≤ 1944) ?_ ?_ ?_ ?_ ?_ hk
  · show (1 : Int).natAbs ≤ 1944; decide
  · exact Nat.le_trans (hR _ _) (by decide)
  · exact Nat.le_trans (dt_b2 (hR _ _) (hR _ _) (hR _ _) (hR _ _)) (by decide)
  · exact Nat.le_trans (dt_b3 (hR _ _) (hR _ _) (hR _ _) (hR _ _) (hR _ _) (hR _ _) (hR _ _) (hR _ _) (hR _ _)) (by decide)
  · exact Nat.le_trans (dt_b4 (hR _ _) (hR _ _) (hR _ _) (hR _ _) (hR _ _) (hR _ _) (hR _ _) (hR _ _) (hR _ _) (hR _ _) (hR _ _) (hR _ _) (hR _ _) (hR _ _) (hR _ _) (hR _ _)) (by decide)
def es_sw (W : Nat → Int) (s t : Nat) : Nat → Int := fun i => if i / 8 = s then W (8 * t + i % 8) else if i / 8 = t then W (8 * s + i % 8) else W i
def es_cl (W : Nat → Int) (m k j : Nat) (d : Int) : Nat → Int := fun i => if i / 8 < m ∧ i / 8 ≠ k then (W i * W (8 * k + j) - W (8 * k + i % 8) * W (8 * (i / 8) + j)).tdiv d else W i
def es_pv (W : Nat → Int) (j : Nat) : Nat → Nat → Nat
  | 0, s => s
  | n + 1, s => if W (8 * s + j) = 0 then es_pv W j n (s + 1) else s
theorem es_pvS (W : Nat → Int) (j : Nat) : ∀ n s, s ≤ es_pv W j n s ∧ es_pv W j n s ≤ s + n ∧ (∀ q, s ≤ q → q < es_pv W j n s → W (8 * q + j) = 0) ∧ (es_pv W j n s < s + n → W (8 * es_pv W j n s + j) ≠ 0) := by
  intro n
  induction n with
  | zero => intro s; exact ⟨Nat.le_refl _, Nat.le_refl _, fun q h1 h2 => by unfold es_pv at h2; omega, fun h => by unfold es_pv at h; omega⟩
  | succ n ih =>
    intro s
    obtain ⟨h1, h2, h3, h4⟩ := ih (s + 1)
    by_cases h : W (8 * s + j) = 0
    · have e : es_pv W j (n + 1) s = es_pv W j n (s + 1) := if_pos h
      rw [e]
      refine ⟨by omega, by omega, fun q hq1 hq2 => ?_, fun z => h4 (by omega)⟩
      by_cases hs : q = s
      · rw [hs]; exact h
      · exact h3 q (by omega) hq2
    · have e : es_pv W j (n + 1) s = s := if_neg h
      rw [e]
      exact ⟨Nat.le_refl _, by omega, fun q h1 h2 => by omega, fun _ => h⟩
abbrev es_T : Type := (Nat → Int) × Nat × Nat × Nat × Int × (Nat → Nat)
def es_t (m j : Nat) (e : es_T) : Nat := es_pv e.1 j (m - e.2.1) e.2.1
def es_st (m S j : Nat) (e : es_T) : es_T :=
  if S.testBit j = true then
    if es_t m j e < m then (es_cl (es_sw e.1 e.2.1 (es_t m j e)) m e.2.1 j e.2.2.2.2.1, e.2.1 + 1, e.2.2.1, e.2.2.2.1, es_sw e.1 e.2.1 (es_t m j e) (8 * e.2.1 + j), fun i => if i = e.2.1 then j else e.2.2.2.2.2 i)
    else (e.1, e.2.1, e.2.2.1 + 1, j, e.2.2.2.2.1, e.2.2.2.2.2)
  else e
def es_run (m S : Nat) (T : Nat → Int) : Nat → es_T
  | 0 => (T, 0, 0, 0, 1, fun _ => 0)
  | j + 1 => es_st m S j (es_run m S T j)
theorem es_a {m S j : Nat} {e : es_T} (h : ¬ S.testBit j = true) : es_st m S j e = e := if_neg h
theorem es_b {m S j : Nat} {e : es_T} (h : S.testBit j = true) (ht : es_t m j e < m) : es_st m S j e = (es_cl (es_sw e.1 e.2.1 (es_t m j e)) m e.2.1 j e.2.2.2.2.1, e.2.1 + 1, e.2.2.1, e.2.2.2.1, es_sw e.1 e.2.1 (es_t m j e) (8 * e.2.1 + j), fun i => if i = e.2.1 then j else e.2.2.2.2.2 i) := by
  unfold es_st; rw [if_pos h, if_pos ht]
theorem es_c {m S j : Nat} {e : es_T} (h : S.testBit j = true) (ht : ¬ es_t m j e < m) : es_st m S j e = (e.1, e.2.1, e.2.2.1 + 1, j, e.2.2.2.2.1, e.2.2.2.2.2) := by
  unfold es_st; rw [if_pos h, if_neg ht]
/-- the invariant: the matrix is that of the minors of the exchanged table -/
def es_I (m j : Nat) (e : es_T) : Prop := ∃ R : Nat → Nat → Int, (∀ q c, (R q c).natAbs ≤ 3) ∧ (∀ q, q < m → ∀ c, c < 8 → e.1 (8 * q + c) = el_F R e.2.2.2.2.2 e.2.1 q c) ∧ e.2.2.2.2.1 = el_D R e.2.2.2.2.2 e.2.1 ∧ e.2.2.2.2.1 ≠ 0 ∧ e.2.1 ≤ m ∧ ∀ i, i < e.2.1 → e.2.2.2.2.2 i < j
theorem es_tm {m j : Nat} {e : es_T} (hk : e.2.1 ≤ m) : e.2.1 ≤ es_t m j e ∧ es_t m j e ≤ m ∧ (∀ q, e.2.1 ≤ q → q < es_t m j e → e.1 (8 * q + j) = 0) ∧ (es_t m j e < m → e.1 (8 * es_t m j e + j) ≠ 0) := by
  obtain ⟨h1, h2, h3, h4⟩ := es_pvS e.1 j (m - e.2.1) e.2.1
  exact ⟨h1, by unfold es_t; omega, h3, fun h => h4 (by unfold es_t at h; omega)⟩
theorem es_swv (W : Nat → Int) {s t q c : Nat} (hc : c < 8) : es_sw W s t (8 * q + c) = if q = s then W (8 * t + c) else if q = t then W (8 * s + c) else W (8 * q + c) := by
  unfold es_sw
  rw [show (8 * q + c) / 8 = q by omega, show (8 * q + c) % 8 = c by omega]
theorem es_clv (W : Nat → Int) {m k j q c : Nat} {d : Int} (hc : c < 8) : es_cl W m k j d (8 * q + c) = if q < m ∧ q ≠ k then (W (8 * q + c) * W (8 * k + j) - W (8 * k + c) * W (8 * q + j)).tdiv d else W (8 * q + c) := by
  unfold es_cl
  rw [show (8 * q + c) / 8 = q by omega, show (8 * q + c) % 8 = c by omega]
/-- what holds behind the exchange -/
theorem es_I1 {m j : Nat} {e : es_T} (hm : m ≤ 4) (h : es_I m j e) (ht : es_t m j e < m) : ∃ R : Nat → Nat → Int, (∀ q c, (R q c).natAbs ≤ 3) ∧ (∀ q, q < m → ∀ c, c < 8 → es_sw e.1 e.2.1 (es_t m j e) (8 * q + c) = el_F R e.2.2.2.2.2 e.2.1 q c) ∧ e.2.2.2.2.1 = el_D R e.2.2.2.2.2 e.2.1 := by
  obtain ⟨R, hR, hW, hd, hd0, hk, hp⟩ := h
  obtain ⟨h1, h2, h3, h4⟩ := es_tm (j := j) hk
  refine ⟨el_S R e.2.1 (es_t m j e), ?_, ?_, ?_⟩
  · intro q c
    unfold el_S
    split
    · exact hR _ _
    · split
      · exact hR _ _
      · exact hR _ _
  · intro q hq c hc
    rw [es_swv _ hc, el_sw R _ c _ (by omega) _ (by omega) h1 _ (by omega)]
    split
    · exact hW _ ht c hc
    · split
      · exact hW _ (by omega) c hc
      · exact hW _ hq c hc
  · rw [el_swD R _ _ (by omega) _ (by omega) h1]; exact hd
theorem es_Is {m S j : Nat} {e : es_T} (hm : m ≤ 4) (hj : j < 8) (h : es_I m j e) : es_I m (j + 1) (es_st m S j e) := by
  by_cases hb : S.testBit j = true
  · by_cases ht : es_t m j e < m
    · obtain ⟨R, hR, hW, hd⟩ := es_I1 hm h ht
      obtain ⟨_, _, _, _, hd0, hk, hp⟩ := h
      obtain ⟨h1, h2, h3, h4⟩ := es_tm (j := j) hk
      rw [es_b hb ht]
      refine ⟨R, hR, ?_, ?_, ?_, ?_, ?_⟩
      · intro q hq c hc
        show es_cl _ m e.2.1 j e.2.2.2.2.1 (8 * q + c) = el_F R (fun i => if i = e.2.1 then j else e.2.2.2.2.2 i) (e.2.1 + 1) q c
        rw [es_clv _ hc]
        by_cases hqk : q = e.2.1
        · rw [if_neg (fun z => z.2 hqk), hW q hq c hc, hqk]
          exact el_row R _ j c _ (by omega)
        · rw [if_pos ⟨hq, hqk⟩, hW q hq c hc, hW q hq j hj, hW _ (by omega) c hc, hW _ (by omega) j hj, el_step R _ j c _ (by omega) q (by omega) hqk, ← hd]
          exact Int.mul_tdiv_cancel_left _ hd0
      · show es_sw e.1 e.2.1 (es_t m j e) (8 * e.2.1 + j) = _
        rw [hW _ (by omega) j hj]
        exact (el_piv R _ j _ (by omega)).symm
      · show es_sw e.1 e.2.1 (es_t m j e) (8 * e.2.1 + j) ≠ 0
        rw [es_swv _ hj, if_pos rfl]
        exact h4 ht
      · show e.2.1 + 1 ≤ m
        omega
      · intro i hi
        show (if i = e.2.1 then j else e.2.2.2.2.2 i) < j + 1
        split
        · omega
        · have := hp i (by have : i < e.2.1 + 1 := hi; omega)
          omega
    · rw [es_c hb ht]
      obtain ⟨R, hR, hW, hd, hd0, hk, hp⟩ := h
      exact ⟨R, hR, hW, hd, hd0, hk, fun i hi => Nat.lt_succ_of_lt (hp i hi)⟩
  · rw [es_a hb]
    obtain ⟨R, hR, hW, hd, hd0, hk, hp⟩ := h
    exact ⟨R, hR, hW, hd, hd0, hk, fun i hi => Nat.lt_succ_of_lt (hp i hi)⟩
theorem es_Ir {m S : Nat} {T : Nat → Int} (hm : m ≤ 4) (hT : ∀ i, (T i).natAbs ≤ 3) : ∀ j, j ≤ 8 → es_I m j (es_run m S T j) := by
  intro j
  induction j with
  | zero => exact fun _ => ⟨fun q c => T (8 * q + c), fun q c => hT _, fun q hq c hc => rfl, rfl, by show (1 : Int) ≠ 0; decide, Nat.zero_le _, fun i hi => absurd hi (Nat.not_lt_zero _)⟩
  | succ j ih => exact fun h => es_Is hm (by omega) (ih (by omega))
theorem es_bW {m j : Nat} {e : es_T} (hm : m ≤ 4) (h : es_I m j e) {q c : Nat} (hq : q < m) (hc : c < 8) : (e.1 (8 * q + c)).natAbs ≤ 1944 := by
  obtain ⟨R, hR, hW, hd, hd0, hk, hp⟩ := h
  rw [hW q hq c hc]
  exact el_bd R _ c hR _ (by omega) q (by omega)
theorem es_bd {m j : Nat} {e : es_T} (hm : m ≤ 4) (h : es_I m j e) : (e.2.2.2.2.1).natAbs ≤ 1944 ∧ e.2.2.2.2.1 ≠ 0 ∧ e.2.1 ≤ m := by
  obtain ⟨R, hR, hW, hd, hd0, hk, hp⟩ := h
  refine ⟨?_, hd0, hk⟩
  rw [hd]
  exact el_bD R _ hR _ (by omega)
theorem es_bW1 {m j : Nat} {e : es_T} (hm : m ≤ 4) (h : es_I m j e) (ht : es_t m j e < m) {q c : Nat} (hq : q < m) (hc : c < 8) : (es_sw e.1 e.2.1 (es_t m j e) (8 * q + c)).natAbs ≤ 1944 := by
  have hk := (es_bd hm h).2.2
  obtain ⟨R, hR, hW, hd⟩ := es_I1 hm h ht
  rw [hW q hq c hc]
  exact el_bd R _ c hR _ (by omega) q (by omega)
/-- every pivot of the cleared table is the last divisor -/
theorem es_dg {m j : Nat} {e : es_T} (hm : m ≤ 4) (hj : j ≤ 8) (h : es_I m j e) {i : Nat} (hi : i < e.2.1) : e.1 (8 * i + e.2.2.2.2.2 i) = e.2.2.2.2.1 := by
  obtain ⟨R, hR, hW, hd, hd0, hk, hp⟩ := h
  have := hp i hi
  rw [hW i (by omega) _ (by omega), hd]
  exact el_dia R _ _ (by omega) i hi
