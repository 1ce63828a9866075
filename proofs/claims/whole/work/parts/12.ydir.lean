/-! the reference's direction: a primitive multiple of the component's candidate -/
noncomputable def yd_V (m S : Nat) (T Y : Nat → Int) (A : Int) (j : Nat) : Int :=
  @ite _ (es_P m S T j) (Classical.propDecidable _) (-(Y (8 * (es_run m S T j).2.1 + (es_run m S T 8).2.2.2.1)) * A.tdiv (Y (8 * (es_run m S T j).2.1 + j)))
    (if j = (es_run m S T 8).2.2.2.1 then A else 0)
theorem yd_P {m S : Nat} {T Y : Nat → Int} {A : Int} {j : Nat} (h : es_P m S T j) : yd_V m S T Y A j = -(Y (8 * (es_run m S T j).2.1 + (es_run m S T 8).2.2.2.1)) * A.tdiv (Y (8 * (es_run m S T j).2.1 + j)) := if_pos h
theorem yd_N {m S : Nat} {T Y : Nat → Int} {A : Int} {j : Nat} (h : ¬ es_P m S T j) : yd_V m S T Y A j = if j = (es_run m S T 8).2.2.2.1 then A else 0 := if_neg h
theorem yd_nz {m S : Nat} {T Y : Nat → Int} (hm : m ≤ 4) (hT : ∀ i, (T i).natAbs ≤ 3) (hR : ∀ q, q < m → ya_R S (es_run m S T 8).1 Y q) {j : Nat} (hj : j < 8) (h : es_P m S T j) : (es_run m S T 8).1 (8 * (es_run m S T j).2.1 + j) = (es_run m S T 8).2.2.2.2.1 ∧ Y (8 * (es_run m S T j).2.1 + j) ≠ 0 := by
  have hI := es_Ir (S := S) hm hT 8 (Nat.le_refl _)
  have hb := es_bd hm hI
  have hk := es_kl h hj
  have h1 := es_dg hm (Nat.le_refl _) hI hk
  rw [es_pf h 8 hj] at h1
  refine ⟨h1, fun z => hb.2.1 ?_⟩
  rw [← h1]
  exact (ya_z (hR _ (by omega)) hj h.1).mp z
theorem yd_pr {m S : Nat} {T Y : Nat → Int} {A : Int} (hm : m ≤ 4) (hT : ∀ i, (T i).natAbs ≤ 3) (ho : (es_run m S T 8).2.2.1 = 1) (hR : ∀ q, q < m → ya_R S (es_run m S T 8).1 Y q) (hA : ∀ i, i < 8 → es_P m S T i → Y (8 * (es_run m S T i).2.1 + i) ∣ A) {j : Nat} (hj : j < 8) : (es_run m S T 8).2.2.2.2.1 * yd_V m S T Y A j = A * es_v m S T j := by
  have hI := es_Ir (S := S) hm hT 8 (Nat.le_refl _)
  have hb := es_bd hm hI
  by_cases h : es_P m S T j
  · rw [yd_P h, es_vP h]
    have hk := es_kl h hj
    obtain ⟨n1, n2⟩ := yd_nz hm hT hR hj h
    obtain ⟨a, ha⟩ := hA j hj h
    have hf := es_of (m := m) (S := S) (T := T) 8 (by omega)
    rw [ha, Int.mul_tdiv_cancel_left _ n2]
    obtain ⟨⟨α, β, hα, hβ, hh⟩, _⟩ := hR (es_run m S T j).2.1 (by omega)
    have e1 := hh j hj
    have e2 := hh _ hf.1
    unfold ya_M at e1 e2
    rw [if_pos h.1, n1] at e1
    rw [if_pos hf.2.1] at e2
    have e3 : (es_run m S T 8).2.2.2.2.1 * Y (8 * (es_run m S T j).2.1 + (es_run m S T 8).2.2.2.1) = Y (8 * (es_run m S T j).2.1 + j) * (es_run m S T 8).1 (8 * (es_run m S T j).2.1 + (es_run m S T 8).2.2.2.1) := by
      have hab : α * β ≠ 0 := Int.mul_ne_zero hα hβ
      refine Int.eq_of_mul_eq_mul_left hab ?_
      generalize (es_run m S T 8).2.2.2.2.1 = D at *
      generalize Y (8 * (es_run m S T j).2.1 + j) = y at *
      generalize Y (8 * (es_run m S T j).2.1 + (es_run m S T 8).2.2.2.1) = z at *
      generalize (es_run m S T 8).1 (8 * (es_run m S T j).2.1 + (es_run m S T 8).2.2.2.1) = x at *
      have f1 : α * β * (D * z) = (α * D) * (β * z) := by grind
      have f2 : α * β * (y * x) = (β * y) * (α * x) := by grind
      rw [f1, f2, e1, e2]
    generalize (es_run m S T 8).2.2.2.2.1 = D at *
    generalize Y (8 * (es_run m S T j).2.1 + j) = y at *
    generalize Y (8 * (es_run m S T j).2.1 + (es_run m S T 8).2.2.2.1) = z at *
    generalize (es_run m S T 8).1 (8 * (es_run m S T j).2.1 + (es_run m S T 8).2.2.2.1) = x at *
    have f1 : D * (-z * a) = -(D * z) * a := by grind
    rw [f1, e3]; grind
  · rw [yd_N h, es_vN h]
    split
    · exact Int.mul_comm _ _
    · rw [Int.mul_zero, Int.mul_zero]
theorem yd_b {m S : Nat} {T Y : Nat → Int} {A : Int} (hm : m ≤ 4) (hT : ∀ i, (T i).natAbs ≤ 3) (ho : (es_run m S T 8).2.2.1 = 1) (hR : ∀ q, q < m → ya_R S (es_run m S T 8).1 Y q) (hAb : A.natAbs ≤ 14281868906496) (hA : ∀ i, i < 8 → es_P m S T i → Y (8 * (es_run m S T i).2.1 + i) ∣ A) {j : Nat} (hj : j < 8) : (yd_V m S T Y A j).natAbs ≤ 36028797018963968 := by
  have hI := es_Ir (S := S) hm hT 8 (Nat.le_refl _)
  have hb := es_bd hm hI
  have hf := es_of (m := m) (S := S) (T := T) 8 (by omega)
  by_cases h : es_P m S T j
  · have hk := es_kl h hj
    obtain ⟨n1, n2⟩ := yd_nz hm hT hR hj h
    obtain ⟨a, ha⟩ := hA j hj h
    rw [yd_P h, ha, Int.mul_tdiv_cancel_left _ n2]
    have h1 : (-(Y (8 * (es_run m S T j).2.1 + (es_run m S T 8).2.2.2.1))).natAbs ≤ 1944 := by rw [Int.natAbs_neg]; exact (hR _ (by omega)).2 _ hf.1
    have h2 : a.natAbs ≤ 14281868906496 := by
      refine Nat.le_trans ?_ hAb
      rw [ha, Int.natAbs_mul]
      exact Nat.le_mul_of_pos_left _ (by omega)
    exact Nat.le_trans (zz_mb h1 h2) (by decide)
  · rw [yd_N h]
    split
    · omega
    · decide
section
variable (fr fc : Int32) (tA bA oA : Nat → Int32) (w : Nat → Int64) (sI : Nat → Int32) (uA nA xA : Nat → Int32)
theorem yl_175 (post : SY → Prop) (fm : Int32) (V : Nat → Int) (g : Nat) (hg : 1 ≤ g) (hgb : g ≤ 36028797018963968) (hV : ∀ j, j < 8 → (V j).natAbs ≤ 36028797018963968)
    (hp : ∀ v : Nat → Int64, (∀ j, j < 8 → v j = zz_l ((V j).tdiv g)) → post (fm, fr, fc, tA, bA, oA, w, sI, v, uA, nA, xA)) :
    ∀ (e i n : Nat) (v : Nat → Int64), i + e = 8 → e < n → (∀ j, j < 8 → v j = if j < i then zz_l ((V j).tdiv g) else zz_l (V j)) → wY_direction_175 post (zz_l g) fm fr fc n (nI i) tA bA oA w sI v uA nA xA := by
  intro e
  induction e with
  | zero =>
    intro i n v hi hn hv
    obtain ⟨n, rfl⟩ : ∃ k, n = k + 1 := ⟨n - 1, by omega⟩
    rw [wY_direction_175]
    exact pk_le 8 i (fun _ => hp v (fun j hj => by rw [hv j hj, if_pos (by omega)])) (fun h => by omega)
  | succ e ih =>
    intro i n v hi hn hv
    obtain ⟨n, rfl⟩ : ∃ k, n = k + 1 := ⟨n - 1, by omega⟩
    rw [wY_direction_175]
    refine pk_le 8 i (fun h => by omega) (fun h => ?_)
    by_cases h1 : g ≤ 1
    · have hg1 : g = 1 := by omega
      refine br_t ((zz_lle1 (by omega)).mpr (by omega)) (nm_r (nI_1 i) (ih (i + 1) n v (by omega) (by omega) (fun j hj => ?_)))
      rw [hv j hj, hg1, show ((1 : Nat) : Int) = 1 from rfl, Int.tdiv_one]
      split <;> split <;> rfl
    · have hg0 : ¬ zz_l g = 0 := fun z => by have := (zz_le0 (by omega)).mp z; omega
      have hVi := hV i h
      refine br_f (fun z => by have := (zz_lle1 (by omega)).mp z; omega) ⟨vp_in_nI h (by decide), hg0, vp_in_nI h (by decide), nm_r (e' := vp_updL v i (zz_l ((V i).tdiv g))) ?_ (nm_r (nI_1 i) (ih (i + 1) n _ (by omega) (by omega) (fun j hj => ?_)))⟩
      · rw [nI_clamp (by omega), hv i h, if_neg (by omega), zz_ldiv (by omega) (by omega)]
      · by_cases hji : j = i
        · rw [hji, pk_uLs, if_pos (by omega)]
        · rw [pk_uLn hji, hv j hj]
          by_cases hlt : j < i
          · rw [if_pos hlt, if_pos (by omega)]
          · rw [if_neg hlt, if_neg (by omega)]
theorem yl_151 (post : SY → Prop) (fm : Int32) (J : Int64 → Int32 → (Nat → Int32) → (Nat → Int32) → (Nat → Int32) → (Nat → Int64) → (Nat → Int32) → (Nat → Int64) → (Nat → Int32) → (Nat → Int32) → (Nat → Int32) → Prop) (x2 : Int32) (x3 : Int64) (j : Nat) (hj : j < 8) (g z : Int) (v : Nat → Int64) (hg : g.natAbs ≤ 36028797018963968) (hz : z.natAbs ≤ 36028797018963968) (hv : v j = zz_l z)
    (hJ : J (zz_l (Int.gcd g z)) (nI (j + 1)) tA bA oA w sI v uA nA xA) : wY_direction_151 post J x2 x3 (zz_l g) (nI j) fm fr fc tA bA oA w sI v uA nA xA := by
  refine ⟨vp_in_nI hj (by decide), ?_⟩
  rw [nI_clamp (by omega), hv]
  exact yw_div _ _ hg hz (nm_r (nI_1 j) hJ)
theorem yl_55 (post : SY → Prop) (m S : Nat) (T Y : Nat → Int) (A : Int) (hm : m ≤ 4) (hT : ∀ i, (T i).natAbs ≤ 3) (ho : (es_run m S T 8).2.2.1 = 1) (hw : ya_E w Y) (hR : ∀ q, q < m → ya_R S (es_run m S T 8).1 Y q) (hs : ∀ j, j < 8 → (es_P m S T j → sI j = nI (es_run m S T j).2.1) ∧ (¬ es_P m S T j → sI j = -1)) (hAb : A.natAbs ≤ 14281868906496) (hA0 : A ≠ 0) (hA : ∀ i, i < 8 → es_P m S T i → Y (8 * (es_run m S T i).2.1 + i) ∣ A)
    (hp : ∀ v : Nat → Int64, (∀ j, j < 8 → v j = zz_l ((yd_V m S T Y A j).tdiv (zz_gg (yd_V m S T Y A) 8))) → post (nI m, fr, fc, tA, bA, oA, w, sI, v, uA, nA, xA)) :
    ∀ (e i n : Nat) (v : Nat → Int64), i + e = 8 → e < n → (∀ j, j < i → v j = zz_l (yd_V m S T Y A j)) → wY_direction_55 post (nI (es_run m S T 8).2.2.2.1) (zz_l A) (nI m) fr fc n (zz_l (zz_gg (yd_V m S T Y A) i)) (nI i) tA bA oA w sI v uA nA xA := by
  have hI := es_Ir (S := S) hm hT 8 (Nat.le_refl _)
  have hb := es_bd hm hI
  have hf := es_of (m := m) (S := S) (T := T) 8 (by omega)
  have hVb : ∀ j, j < 8 → (yd_V m S T Y A j).natAbs ≤ 36028797018963968 := fun j hj => yd_b hm hT ho hR hAb hA hj
  have hB : ∀ n, n ≤ 8 → zz_gg (yd_V m S T Y A) n ≤ 36028797018963968 := fun n hn => gg_b n (fun c hc => hVb c (by omega))
  intro e
  induction e with
  | zero =>
    intro i n v hi hn hv
    obtain ⟨n, rfl⟩ : ∃ k, n = k + 1 := ⟨n - 1, by omega⟩
    have hi8 : i = 8 := by omega
    subst hi8
    rw [wY_direction_55]
    refine pk_le 8 8 (fun _ => ⟨9, ?_⟩) (fun h => by omega)
    have hg1 : 1 ≤ zz_gg (yd_V m S T Y A) 8 := by
      rcases Nat.eq_zero_or_pos (zz_gg (yd_V m S T Y A) 8) with h0 | h0
      · have := gg_z h0 hf.1
        rw [yd_N hf.2.2, if_pos rfl] at this
        exact absurd this hA0
      · exact h0
    refine yl_175 fr fc tA bA oA w sI uA nA xA post (nI m) (yd_V m S T Y A) _ hg1 (hB 8 (by omega)) hVb hp 8 0 9 v rfl (by decide) (fun j hj => ?_)
    rw [if_neg (by omega)]; exact hv j hj
  | succ e ih =>
    intro i n v hi hn hv
    obtain ⟨n, rfl⟩ : ∃ k, n = k + 1 := ⟨n - 1, by omega⟩
    rw [wY_direction_55]
    refine pk_le 8 i (fun h => by omega) (fun h => ⟨vp_in_nI h (by decide), nm_r (e' := vp_updL v i 0) (by rw [nI_clamp (by omega)]) ?_⟩)
    have hBi := hB i (by omega)
    have hnext : ∀ v' : Nat → Int64, v' i = zz_l (yd_V m S T Y A i) → (∀ j, j ≠ i → v' j = v j) → wY_direction_151 post (wY_direction_55 post (nI (es_run m S T 8).2.2.2.1) (zz_l A) (nI m) fr fc n) (nI (es_run m S T 8).2.2.2.1) (zz_l A) (zz_l (zz_gg (yd_V m S T Y A) i)) (nI i) (nI m) fr fc tA bA oA w sI v' uA nA xA := by
      intro v' h1 h2
      refine yl_151 fr fc tA bA oA w sI uA nA xA post (nI m) _ _ _ i h _ _ v' (by omega) (hVb i h) h1 (ih (i + 1) n v' (by omega) (by omega) (fun j hj => ?_))
      by_cases hji : j = i
      · rw [hji]; exact h1
      · rw [h2 j hji]; exact hv j (by omega)
    have h84 : ∀ v' : Nat → Int64, (¬ es_P m S T i → v' i = zz_l (yd_V m S T Y A i)) → (∀ j, j ≠ i → v' j = v j) → wY_direction_84 post (wY_direction_55 post (nI (es_run m S T 8).2.2.2.1) (zz_l A) (nI m) fr fc n) (nI (es_run m S T 8).2.2.2.1) (zz_l A) (zz_l (zz_gg (yd_V m S T Y A) i)) (nI i) (nI m) fr fc tA bA oA w sI v' uA nA xA := by
      intro v' h1 h2
      refine ⟨vp_in_nI h (by decide), ?_⟩
      rw [nI_clamp (by omega)]
      by_cases hP : es_P m S T i
      · have hsi := (hs i h).1 hP
        have hk := es_kl hP h
        obtain ⟨n1, n2⟩ := yd_nz hm hT hR h hP
        have b1 := (hR (es_run m S T i).2.1 (by omega)).2 i h
        rw [hsi]
        have c1 : (8 * nI (es_run m S T i).2.1 + nI i).toNatClampNeg = 8 * (es_run m S T i).2.1 + i := by rw [zz_y, nI_clamp (by omega)]
        have v1 : vp_in (8 * nI (es_run m S T i).2.1 + nI i) 32 := by rw [zz_y]; exact vp_in_nI (by omega) (by decide)
        have c2 : (8 * nI (es_run m S T i).2.1 + nI (es_run m S T 8).2.2.2.1).toNatClampNeg = 8 * (es_run m S T i).2.1 + (es_run m S T 8).2.2.2.1 := by rw [zz_y, nI_clamp (by omega)]
        have v2 : vp_in (8 * nI (es_run m S T i).2.1 + nI (es_run m S T 8).2.2.2.1) 32 := by rw [zz_y]; exact vp_in_nI (by omega) (by decide)
        have hd0 : ¬ zz_l (Y (8 * (es_run m S T i).2.1 + i)) = 0 := fun z => n2 ((zz_le0 (by omega)).mp z)
        refine br_f (nI_pos (by omega)) ⟨vp_in_nI h (by decide), v1, nm_r (e' := zz_l (Y (8 * (es_run m S T i).2.1 + i))) (by rw [c1]; exact hw _ (by omega) i h) (br_f hd0 ⟨vp_in_nI h (by decide), v2, hd0, vp_in_nI h (by decide), nm_r (e' := vp_updL v' i (zz_l (yd_V m S T Y A i))) ?_ (hnext _ pk_uLs (fun j hj => by rw [pk_uLn hj]; exact h2 j hj))⟩)⟩
        rw [c2, hw _ (by omega) _ hf.1, zz_lneg, zz_ldiv (by omega) (by omega), zz_lmul, yd_P hP]
      · rw [(hs i h).2 hP]
        exact br_t (by decide) (hnext v' (h1 hP) h2)
    refine pk_eq i (es_run m S T 8).2.2.2.1 (fun hif => ⟨vp_in_nI h (by decide), nm_r (e' := vp_updL (vp_updL v i 0) i (zz_l A)) (by rw [nI_clamp (by omega)]) (h84 _ (fun hP => ?_) (fun j hj => by rw [pk_uLn hj, pk_uLn hj]))⟩) (fun hif => h84 _ (fun hP => ?_) (fun j hj => by rw [pk_uLn hj]))
    · rw [pk_uLs, yd_N hP, if_pos hif]
    · rw [pk_uLs, yd_N hP, if_neg hif]; rfl
theorem yl_dir (post : SY → Prop) (v : Nat → Int64) (x1 : Int32) (m S : Nat) (T Y : Nat → Int) (hm : m ≤ 4) (hT : ∀ i, (T i).natAbs ≤ 3) (ho : (es_run m S T 8).2.2.1 = 1) (hw : ya_E w Y) (hR : ∀ q, q < m → ya_R S (es_run m S T 8).1 Y q) (hs : ∀ j, j < 8 → (es_P m S T j → sI j = nI (es_run m S T j).2.1) ∧ (¬ es_P m S T j → sI j = -1))
    (hp : ∀ (v : Nat → Int64) (V : Nat → Int), (∀ j, j < 8 → v j = zz_l (V j)) → zz_gg V 8 = 1 → (∃ α β : Int, α ≠ 0 ∧ β ≠ 0 ∧ ∀ j, j < 8 → α * es_v m S T j = β * V j) → (∀ j, j < 8 → (V j).natAbs ≤ 1944) → post (nI m, fr, fc, tA, bA, oA, w, sI, v, uA, nA, xA)) :
    wpY_direction post (nI m, fr, fc, tA, bA, oA, w, sI, v, uA, nA, xA) x1 (nI (es_run m S T 8).2.2.2.1) := by
  have hI := es_Ir (S := S) hm hT 8 (Nat.le_refl _)
  have hb := es_bd hm hI
  have hf := es_of (m := m) (S := S) (T := T) 8 (by omega)
  have H : ∀ (e j n : Nat) (A : Int), j + e = 8 → e < n → A ≠ 0 → A.natAbs ≤ 1944 ^ (es_run m S T j).2.1 → (∀ i, i < j → es_P m S T i → Y (8 * (es_run m S T i).2.1 + i) ∣ A) → wY_direction_5 post (nI (es_run m S T 8).2.2.2.1) (nI m) fr fc tA bA oA w sI v uA nA xA n (zz_l A) (nI j) := by
    intro e
    induction e with
    | zero =>
      intro j n A hj hn hA0 hAb hA
      obtain ⟨n, rfl⟩ : ∃ k, n = k + 1 := ⟨n - 1, by omega⟩
      have hj8 : j = 8 := by omega
      subst hj8
      rw [wY_direction_5]
      have hAb' : A.natAbs ≤ 14281868906496 := Nat.le_trans hAb (Nat.le_trans (Nat.pow_le_pow_right (by decide) (show _ ≤ 4 by omega)) (by decide))
      refine pk_le 8 8 (fun _ => ⟨9, ?_⟩) (fun h => by omega)
      refine yl_55 fr fc tA bA oA w sI uA nA xA post m S T Y A hm hT ho hw hR hs hAb' hA0 hA (fun v' hv' => ?_) 8 0 9 v rfl (by decide) (fun j hj => absurd hj (Nat.not_lt_zero _))
      have hg0 : zz_gg (yd_V m S T Y A) 8 ≠ 0 := by
        intro h0
        have := gg_z h0 hf.1
        rw [yd_N hf.2.2, if_pos rfl] at this
        exact hA0 this
      have hmul : ∀ j, j < 8 → yd_V m S T Y A j = (zz_gg (yd_V m S T Y A) 8 : Int) * (yd_V m S T Y A j).tdiv (zz_gg (yd_V m S T Y A) 8) := fun j hj => (Int.mul_tdiv_cancel' (Int.ofNat_dvd_left.mpr (gg_d 8 j hj))).symm
      have hone : zz_gg (fun j => (yd_V m S T Y A j).tdiv (zz_gg (yd_V m S T Y A) 8)) 8 = 1 := by
        have h2 := gg_c (f := yd_V m S T Y A) (g := fun j => (zz_gg (yd_V m S T Y A) 8 : Int) * (yd_V m S T Y A j).tdiv (zz_gg (yd_V m S T Y A) 8)) 8 hmul
        rw [gg_m (zz_gg (yd_V m S T Y A) 8 : Int) (fun j => (yd_V m S T Y A j).tdiv (zz_gg (yd_V m S T Y A) 8)) 8, Int.natAbs_natCast] at h2
        exact Nat.eq_of_mul_eq_mul_left (by omega : 0 < zz_gg (yd_V m S T Y A) 8) (by rw [Nat.mul_one]; exact h2.symm)
      have hg0' : (zz_gg (yd_V m S T Y A) 8 : Int) ≠ 0 := by omega
      have hpr : ∀ j, j < 8 → A * es_v m S T j = ((es_run m S T 8).2.2.2.2.1 * (zz_gg (yd_V m S T Y A) 8 : Int)) * (yd_V m S T Y A j).tdiv (zz_gg (yd_V m S T Y A) 8) := by
        intro j hj
        rw [Int.mul_assoc, ← hmul j hj]
        exact (yd_pr hm hT ho hR hA hj).symm
      refine hp v' (fun j => (yd_V m S T Y A j).tdiv (zz_gg (yd_V m S T Y A) 8)) hv' hone ⟨A, (es_run m S T 8).2.2.2.2.1 * (zz_gg (yd_V m S T Y A) 8 : Int), hA0, Int.mul_ne_zero hb.2.1 hg0', hpr⟩ (fun j hj => ?_)
      exact Nat.le_trans (gg_p hA0 (Int.mul_ne_zero hb.2.1 hg0') hpr hone hj) (es_vb hm hT (by omega) hj)
    | succ e ih =>
      intro j n A hj hn hA0 hAb hA
      obtain ⟨n, rfl⟩ : ∃ k, n = k + 1 := ⟨n - 1, by omega⟩
      rw [wY_direction_5]
      refine pk_le 8 j (fun h => by omega) (fun h => ⟨vp_in_nI h (by decide), ?_⟩)
      rw [nI_clamp (by omega)]
      by_cases hP : es_P m S T j
      · have hk := es_kl hP h
        obtain ⟨n1, n2⟩ := yd_nz hm hT hR h hP
        rw [(hs j h).1 hP]
        have c1 : (8 * nI (es_run m S T j).2.1 + nI j).toNatClampNeg = 8 * (es_run m S T j).2.1 + j := by rw [zz_y, nI_clamp (by omega)]
        have v1 : vp_in (8 * nI (es_run m S T j).2.1 + nI j) 32 := by rw [zz_y]; exact vp_in_nI (by omega) (by decide)
        refine br_f (nI_pos (by omega)) ⟨vp_in_nI h (by decide), v1, nm_r (e' := zz_l (A * Y (8 * (es_run m S T j).2.1 + j))) (by rw [c1, hw _ (by omega) j h, zz_lmul]) (nm_r (nI_1 j) (ih (j + 1) n _ (by omega) (by omega) (Int.mul_ne_zero hA0 n2) ?_ ?_))⟩
        · rw [es_kP hP, Nat.pow_succ]
          exact zz_mb hAb ((hR _ (by omega)).2 j h)
        · intro i hi hPi
          by_cases hij : i = j
          · subst hij; exact Int.dvd_mul_left _ _
          · exact Int.dvd_trans (hA i (by omega) hPi) (Int.dvd_mul_right _ _)
      · rw [(hs j h).2 hP]
        refine br_t (by decide) (nm_r (nI_1 j) (ih (j + 1) n A (by omega) (by omega) hA0 (by rw [es_kN hP]; exact hAb) (fun i hi hPi => ?_)))
        by_cases hij : i = j
        · subst hij; exact absurd hPi hP
        · exact hA i (by omega) hPi
  exact ⟨9, H 8 0 9 1 rfl (by decide) (by decide) (by show (1 : Int).natAbs ≤ 1944 ^ 0; decide) (fun i hi => absurd hi (Nat.not_lt_zero _))⟩
end
