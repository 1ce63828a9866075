/-! the reference's list of modes -/
theorem zz_nb0 : vp_nar .boolean 0 = 0 := by decide
theorem zz_nb1 : vp_nar .boolean 1 = 1 := by decide
def yb_B (t : Nat) (bA : Nat → Int32) : Prop := ∀ j, j < 8 → bA j = if t.testBit j = true then 1 else 0
theorem yb_0 {t : Nat} {bA : Nat → Int32} (h : yb_B t bA) {j : Nat} (hj : j < 8) (hb : t.testBit j = false) : bA j = 0 := by
  rw [h j hj, hb]; rfl
theorem yb_1 {t : Nat} {bA : Nat → Int32} (h : yb_B t bA) {j : Nat} (hj : j < 8) (hb : t.testBit j = true) : ¬ bA j = 0 := by
  rw [h j hj, hb]; decide
theorem es_v0 {m S : Nat} {T : Nat → Int} (ho : (es_run m S T 8).2.2.1 = 1) {j : Nat} (hb : ¬ S.testBit j = true) : es_v m S T j = 0 := by
  rw [es_vN (fun z => hb z.1), if_neg]
  intro h
  have := (es_of (m := m) (S := S) (T := T) 8 (by omega)).2.1
  rw [← h] at this
  exact hb this
/-- two primitive vectors of one line agree up to the sign -/
theorem md_pm {n : Nat} {x y : Nat → Int} {α β : Int} (hα : α ≠ 0) (hβ : β ≠ 0) (hx : zz_gg x n ≠ 0) (hy : zz_gg y n = 1) (h : ∀ j, j < n → α * x j = β * y j) :
    (∀ j, j < n → y j = (x j).tdiv (zz_gg x n)) ∨ (∀ j, j < n → y j = -(x j).tdiv (zz_gg x n)) := by
  have hmul : ∀ j, j < n → x j = (zz_gg x n : Int) * (x j).tdiv (zz_gg x n) := fun j hj => (Int.mul_tdiv_cancel' (Int.ofNat_dvd_left.mpr (gg_d n j hj))).symm
  have h1 := gg_c (f := fun j => α * x j) (g := fun j => β * y j) n h
  rw [gg_m α x n, gg_m β y n, hy, Nat.mul_one] at h1
  have h2 : ∀ j, j < n → α * (zz_gg x n : Int) * (x j).tdiv (zz_gg x n) = β * y j := fun j hj => by rw [Int.mul_assoc, ← hmul j hj]; exact h j hj
  have h3 : (α * (zz_gg x n : Int)).natAbs = β.natAbs := by rw [Int.natAbs_mul, Int.natAbs_natCast]; exact h1
  rcases Int.natAbs_eq_natAbs_iff.mp h3 with h4 | h4
  · refine Or.inl (fun j hj => ?_)
    have := h2 j hj
    rw [h4] at this
    exact (Int.eq_of_mul_eq_mul_left hβ this).symm
  · refine Or.inr (fun j hj => ?_)
    have := h2 j hj
    rw [h4, Int.neg_mul, ← Int.mul_neg] at this
    exact (Int.eq_of_mul_eq_mul_left hβ this).symm
theorem md_sd {x : Int} {g : Nat} (hg : g ≠ 0) (hd : (g : Int) ∣ x) : (0 ≤ x.tdiv g ↔ 0 ≤ x) ∧ (x.tdiv g ≤ 0 ↔ x ≤ 0) := by
  obtain ⟨a, rfl⟩ := hd
  rw [Int.mul_tdiv_cancel_left _ (by omega : (g : Int) ≠ 0)]
  have hg' : (0 : Int) < g := by omega
  constructor
  · constructor
    · intro h; exact Int.mul_nonneg (by omega) h
    · intro h; exact Int.nonneg_of_mul_nonneg_right h hg'
  · constructor
    · intro h; exact Int.mul_nonpos_of_nonneg_of_nonpos (by omega) h
    · intro h
      by_cases ha : a ≤ 0
      · exact ha
      · have := Int.mul_pos hg' (by omega : 0 < a); omega
theorem md_eq {m S t : Nat} {T V : Nat → Int} (hm : m ≤ 4) (hT : ∀ i, (T i).natAbs ≤ 3) (hS : S < 256) (h0 : 0 < S) (hk : es_ok m S T) (hV : zz_gg V 8 = 1) (hpr : ∃ α β : Int, α ≠ 0 ∧ β ≠ 0 ∧ ∀ j, j < 8 → α * es_v m S T j = β * V j) :
    (∀ j, j < 8 → V j * sg_s S t V = md_x m S T t j) ∧ (sg_s S t V = 0 ↔ sg_s S t (es_v m S T) = 0) := by
  obtain ⟨α, β, hα, hβ, hh⟩ := hpr
  have hg := md_gg hm hT hk
  have hsd : ∀ j, j < 8 → (0 ≤ (es_v m S T j).tdiv (zz_gg (es_v m S T) 8) ↔ 0 ≤ es_v m S T j) ∧ ((es_v m S T j).tdiv (zz_gg (es_v m S T) 8) ≤ 0 ↔ es_v m S T j ≤ 0) := fun j hj => md_sd hg (Int.ofNat_dvd_left.mpr (gg_d 8 j hj))
  rcases md_pm hα hβ hg hV hh with h | h
  · have hs : sg_s S t V = sg_s S t (es_v m S T) := sg_pos hS h0 (fun j hj => by rw [h j hj]; exact hsd j hj)
    exact ⟨fun j hj => by rw [hs, h j hj]; exact Int.mul_comm _ _, by rw [hs]⟩
  · have hs : sg_s S t V = -sg_s S t (es_v m S T) := sg_neg hS h0 hk.2 (fun j hj => by
      have := hsd j hj
      rw [h j hj]; omega)
    refine ⟨fun j hj => ?_, by rw [hs]; omega⟩
    rw [hs, h j hj, Int.neg_mul_neg]; exact Int.mul_comm _ _
section
variable (fr fc : Int32) (tA bA oA : Nat → Int32) (w : Nat → Int64) (sI : Nat → Int32) (vA : Nat → Int64) (uA nA xA : Nat → Int32)
theorem yl_flows (post : Int32 → Prop) (fm x2 : Int32) (S t : Nat) (V : Nat → Int) (sg : Int) (hx2 : x2 = zz_i sg) (hsg : sg.natAbs ≤ 1) (hS : S < 256) (hB : yb_B t bA) (hv : ∀ j, j < 8 → vA j = zz_l (V j)) (hVb : ∀ j, j < 8 → (V j).natAbs ≤ 1944)
    (h1 : (∀ j, j < 8 → S.testBit j = true → V j ≠ 0 ∧ (t.testBit j = false → 0 ≤ V j * sg)) → post 1) (h0 : (¬ ∀ j, j < 8 → S.testBit j = true → V j ≠ 0 ∧ (t.testBit j = false → 0 ≤ V j * sg)) → post 0) :
    wpY_flows post (fm, fr, fc, tA, bA, oA, w, sI, vA, uA, nA, xA) (nI S) x2 := by
  subst hx2
  have H : ∀ (e j n : Nat), j + e = 8 → e < n → (∀ i, i < j → S.testBit i = true → V i ≠ 0 ∧ (t.testBit i = false → 0 ≤ V i * sg)) → wY_flows_2 post (nI S) (zz_i sg) fm fr fc tA bA oA w sI vA uA nA xA n (nI j) := by
    intro e
    induction e with
    | zero =>
      intro j n hj hn hi
      obtain ⟨n, rfl⟩ : ∃ k, n = k + 1 := ⟨n - 1, by omega⟩
      rw [wY_flows_2]
      exact pk_le 8 j (fun _ => h1 (fun i hi8 => hi i (by omega))) (fun h => by omega)
    | succ e ih =>
      intro j n hj hn hi
      obtain ⟨n, rfl⟩ : ∃ k, n = k + 1 := ⟨n - 1, by omega⟩
      rw [wY_flows_2]
      refine pk_le 8 j (fun h => by omega) (fun h => ?_)
      have hnext : (S.testBit j = true → V j ≠ 0 ∧ (t.testBit j = false → 0 ≤ V j * sg)) → wY_flows_2 post (nI S) (zz_i sg) fm fr fc tA bA oA w sI vA uA nA xA n (nI (j + 1)) := by
        intro hq
        refine ih (j + 1) n (by omega) (by omega) (fun i hi' => ?_)
        by_cases hij : i = j
        · rw [hij]; exact hq
        · exact hi i (by omega)
      by_cases hb : S.testBit j = true
      · refine yw_i1 _ (by omega) (by omega) hb (br_f (by decide) ⟨vp_in_nI h (by decide), ?_⟩)
        have hVj := hVb j h
        rw [nI_clamp (by omega), hv j h]
        by_cases hz : V j = 0
        · exact br_t ((zz_le0 (by omega)).mpr hz) (h0 (fun z => (z j h hb).1 hz))
        · refine br_f (fun z => hz ((zz_le0 (by omega)).mp z)) ⟨vp_in_nI h (by decide), ?_⟩
          cases ht : t.testBit j
          · refine br_t (yb_0 hB h ht) ⟨vp_in_nI h (by decide), ?_⟩
            have hmb := zz_mb hVj hsg
            rw [zz_il (by omega), zz_lmul]
            by_cases hs : 0 ≤ V j * sg
            · exact br_t ((zz_l0le (by omega)).mpr hs) (nm_r (nI_1 j) (hnext (fun _ => ⟨hz, fun _ => hs⟩)))
            · exact br_f (fun z => hs ((zz_l0le (by omega)).mp z)) (h0 (fun z => hs ((z j h hb).2 ht)))
          · exact br_f (yb_1 hB h ht) (nm_r (nI_1 j) (hnext (fun _ => ⟨hz, fun z => by rw [ht] at z; exact absurd z (by decide)⟩)))
      · exact yw_i0 _ (by omega) (by omega) hb (br_t rfl (nm_r (nI_1 j) (hnext (fun z => absurd z hb))))
  exact ⟨9, H 8 0 9 rfl (by decide) (fun i hi => absurd hi (Nat.not_lt_zero _))⟩
theorem yl_first (post : Int64 → Prop) (fm : Int32) (b : Nat) (V : Nat → Int) (hb : b < 8) (hv : ∀ j, j < 8 → vA j = zz_l (V j)) (hVb : ∀ j, j < 8 → (V j).natAbs ≤ 1944) (hz : V b ≠ 0) (hlo : ∀ i, i < b → V i = 0) (hp : post (zz_l (V b))) :
    wpY_firstValue post (fm, fr, fc, tA, bA, oA, w, sI, vA, uA, nA, xA) := by
  have H : ∀ (e j n : Nat), j + e = b → e < n → wY_firstValue_2 post fm fr fc tA bA oA w sI vA uA nA xA n (nI j) := by
    intro e
    induction e with
    | zero =>
      intro j n hj hn
      obtain ⟨n, rfl⟩ : ∃ k, n = k + 1 := ⟨n - 1, by omega⟩
      have hjb : j = b := by omega
      subst hjb
      have := hVb j hb
      rw [wY_firstValue_2]
      refine pk_le 8 j (fun h => by omega) (fun h => ⟨vp_in_nI h (by decide), ?_⟩)
      rw [nI_clamp (by omega), hv j hb]
      exact br_f (fun z => hz ((zz_le0 (by omega)).mp z)) ⟨vp_in_nI h (by decide), hp⟩
    | succ e ih =>
      intro j n hj hn
      obtain ⟨n, rfl⟩ : ∃ k, n = k + 1 := ⟨n - 1, by omega⟩
      have := hVb j (by omega)
      rw [wY_firstValue_2]
      refine pk_le 8 j (fun h => by omega) (fun h => ⟨vp_in_nI h (by decide), ?_⟩)
      rw [nI_clamp (by omega), hv j h]
      exact br_t ((zz_le0 (by omega)).mpr (hlo j (by omega))) (nm_r (nI_1 j) (ih (j + 1) n (by omega) (by omega)))
  exact ⟨b + 1, H b 0 (b + 1) (by omega) (by omega)⟩
end
theorem es_nb (S : Nat) : ∀ n, es_n S n ≤ n := by
  intro n
  induction n with
  | zero => exact Nat.le_refl _
  | succ n ih => show es_n S n + (if _ then 1 else 0) ≤ n + 1; split <;> omega
theorem yl_num (post : Int32 → Prop) (u : SY) (S : Nat) (hS : S < 256) (hp : post (nI (es_n S 8))) : wpY_number post u (nI S) := by
  obtain ⟨fm, fr, fc, tA, bA, oA, w, sI, vA, uA, nA, xA⟩ := u
  have H : ∀ (e j n : Nat), j + e = 8 → e < n → wY_number_4 post (nI S) fm fr fc tA bA oA w sI vA uA nA xA n (nI (es_n S j)) (nI j) := by
    intro e
    induction e with
    | zero =>
      intro j n hj hn
      obtain ⟨n, rfl⟩ : ∃ k, n = k + 1 := ⟨n - 1, by omega⟩
      have hj8 : j = 8 := by omega
      subst hj8
      rw [wY_number_4]
      exact pk_le 8 8 (fun _ => hp) (fun h => by omega)
    | succ e ih =>
      intro j n hj hn
      obtain ⟨n, rfl⟩ : ∃ k, n = k + 1 := ⟨n - 1, by omega⟩
      have h1 := ih (j + 1) n (by omega) (by omega)
      rw [wY_number_4]
      refine pk_le 8 j (fun h => by omega) (fun h => ?_)
      by_cases hb : S.testBit j = true
      · rw [show es_n S (j + 1) = es_n S j + 1 by show es_n S j + (if _ then 1 else 0) = _; rw [if_pos hb]] at h1
        exact yw_i1 _ (by omega) (by omega) hb (br_f (by decide) (nm_r (nI_1 _) (nm_r (nI_1 j) h1)))
      · rw [show es_n S (j + 1) = es_n S j by show es_n S j + (if _ then 1 else 0) = _; rw [if_neg hb]; rfl] at h1
        exact yw_i0 _ (by omega) (by omega) hb (br_t rfl (nm_r (nI_1 j) h1))
  exact ⟨9, H 8 0 9 rfl (by decide)⟩
