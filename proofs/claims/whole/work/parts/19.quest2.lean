/-! carries, coupled, cutSize -/
section
variable (m r t o cnt : Nat) (tA sA xA w p c : Nat → Int32) (bA oA : Nat → Int32)
/-- whether mode i runs at j in the direction f -/
def ql_r (t i j : Nat) (sA xA : Nat → Int32) (f : Int32) : Prop := rl_T xA (8 * i + j) ≠ 0 ∧ ((rl_T xA (8 * i + j) ≤ 0 ∧ f = 0) ∨ (¬ rl_T xA (8 * i + j) ≤ 0 ∧ f = 1) ∨ sg_one (rl_S sA i) t = 0)
theorem ql_runs (hX : rl_X cnt sA xA) {i j : Nat} (hi : i < cnt) (hj : j < 8) (f : Int32) (hf : f = 0 ∨ f = 1) (post : Int32 → Prop) (h1 : ql_r t i j sA xA f → post 1) (h0 : ¬ ql_r t i j sA xA f → post 0) : wpX_runs post (nI m, nI r, nI t, nI o, nI cnt, tA, sA, xA, w, p, c) (nI i) (nI j) f := by
  have hc := hX.1
  obtain ⟨hs, es, hx⟩ := hX.2 i hi
  obtain ⟨zb, ez⟩ := hx j hj
  have c1 : (nI i * 8 + nI j).toNatClampNeg = 8 * i + j := by rw [zz_x, nI_clamp (by omega)]
  have v1 : vp_in (nI i * 8 + nI j) 2048 := by rw [zz_x]; exact vp_in_nI (by omega) (by decide)
  have hv : vp_in (nI i) 256 := vp_in_nI (by omega) (by decide)
  have ci : (nI i).toNatClampNeg = i := nI_clamp (by omega)
  have e0 := zz_ie0 (a := rl_T xA (8 * i + j)) (by omega)
  have el : zz_i (rl_T xA (8 * i + j)) ≤ 0 ↔ rl_T xA (8 * i + j) ≤ 0 := zz_ile (b := 0) (by omega) (by decide)
  refine ⟨v1, nm_r (e' := zz_i (rl_T xA (8 * i + j))) (by rw [c1]; exact ez) ?_⟩
  by_cases hz : rl_T xA (8 * i + j) = 0
  · exact br_t (e0.mpr hz) (h0 (fun q => q.1 hz))
  · refine br_f (fun q => hz (e0.mp q)) ?_
    have htw : ∀ g : Int32, (g = f → post 1) → ((¬ g = f) → ¬ ql_r t i j sA xA f ∨ sg_one (rl_S sA i) t = 0) → wX_runs_30 post (nI i) f g (nI m) (nI r) (nI t) (nI o) (nI cnt) tA sA xA w p c := by
      intro g hg hng
      by_cases hgf : g = f
      · exact br_t hgf (hg hgf)
      · refine br_f hgf ⟨hv, ?_⟩
        rw [ci, es]
        by_cases ht : sg_one (rl_S sA i) t = 0
        · exact gd_T1 ht (br_f (by decide) (h1 ⟨hz, Or.inr (Or.inr ht)⟩))
        · exact gd_T0 hs ht (br_t rfl (h0 ((hng hgf).resolve_right ht)))
    by_cases hle : rl_T xA (8 * i + j) ≤ 0
    · refine br_t (el.mpr hle) (htw 0 (fun q => h1 ⟨hz, Or.inl ⟨hle, q.symm⟩⟩) (fun q => ?_))
      by_cases ht : sg_one (rl_S sA i) t = 0
      · exact Or.inr ht
      · refine Or.inl (fun y => ?_)
        rcases y.2 with y | y | y
        · exact q y.2.symm
        · exact y.1 hle
        · exact ht y
    · refine br_f (fun q => hle (el.mp q)) (htw 1 (fun q => h1 ⟨hz, Or.inr (Or.inl ⟨hle, q.symm⟩)⟩) (fun q => ?_))
      by_cases ht : sg_one (rl_S sA i) t = 0
      · exact Or.inr ht
      · refine Or.inl (fun y => ?_)
        rcases y.2 with y | y | y
        · exact hle y.1
        · exact q y.2.symm
        · exact ht y
theorem ql_carries (hX : rl_X cnt sA xA) (j : Nat) (hj : j < 8) (x2 : Int32) : ∀ e i, i + e = cnt → ∃ a : Int32, (∀ post : Int32 → Prop, post a → wX_carries_19 post (nI j) x2 (nI m) (nI r) (nI t) (nI o) (nI cnt) tA sA xA w p c (e + 1) (nI i)) ∧
    (∀ (w' : Nat → Int64) (sI : Nat → Int32) (vA : Nat → Int64) (uA nA yA : Nat → Int32), rl_Y cnt t sA xA uA nA yA → ∀ post : Int32 → SY → Prop, post a (nI m, nI r, nI cnt, tA, bA, oA, w', sI, vA, uA, nA, yA) → wY_carries_23 post (nI j) x2 (nI m) (nI r) (nI cnt) tA bA oA w' sI vA uA nA yA (e + 1) (nI i)) := by
  have hc := hX.1
  obtain ⟨f, hf, hfx, hfy⟩ : ∃ f : Int32, (f = 0 ∨ f = 1) ∧ (∀ (post : Int32 → Prop) (J : Int32 → Prop) (x3 : Int32), wpX_runs (fun r_17 => (((r_17 = 0 → (∀ y : Int32, y = x3 + 1 → J y)) ∧ (¬ r_17 = 0 → (post 1))))) (nI m, nI r, nI t, nI o, nI cnt, tA, sA, xA, w, p, c) x3 (nI j) f → (x2 ≤ 0 → wX_carries_39 post J (nI j) x2 x3 0 (nI j) x3 (nI m) (nI r) (nI t) (nI o) (nI cnt) tA sA xA w p c) ∧ (¬ x2 ≤ 0 → wX_carries_39 post J (nI j) x2 x3 1 (nI j) x3 (nI m) (nI r) (nI t) (nI o) (nI cnt) tA sA xA w p c)) ∧
      (∀ (post : Int32 → SY → Prop) (J : Int32 → Prop) (x3 z0 : Int32) (w' : Nat → Int64) (sI : Nat → Int32) (vA : Nat → Int64) (uA nA yA : Nat → Int32), wY_carries_84 post J (nI j) x2 x3 f z0 (nI m) (nI r) (nI cnt) tA bA oA w' sI vA uA nA yA → wY_carries_75 post J (nI j) x2 x3 z0 (nI m) (nI r) (nI cnt) tA bA oA w' sI vA uA nA yA) := by
    by_cases hx : x2 ≤ 0
    · exact ⟨0, Or.inl rfl, fun post J x3 h => br_t hx h, fun post J x3 z0 w' sI vA uA nA yA h => br_t hx h⟩
    · exact ⟨1, Or.inr rfl, fun post J x3 h => br_f hx h, fun post J x3 z0 w' sI vA uA nA yA h => br_f hx h⟩
  intro e
  induction e with
  | zero =>
    intro i hi
    have h : nI cnt ≤ nI i := nI_le (by omega) (by omega)
    exact ⟨0, fun post hp => br_t h hp, fun w' sI vA uA nA yA hQ post hp => br_t h hp⟩
  | succ e ih =>
    intro i hi
    have hic : i < cnt := by omega
    have h : ¬ nI cnt ≤ nI i := nI_ge (by omega) (by omega)
    have h2 : ¬ (256 : Int32) ≤ nI i := nI_ge (b := 256) (by omega) (by decide)
    have hv : vp_in (nI i) 256 := vp_in_nI (by omega) (by decide)
    have ci : (nI i).toNatClampNeg = i := nI_clamp (by omega)
    have c1 : (8 * nI i + nI j).toNatClampNeg = 8 * i + j := by rw [zz_y, nI_clamp (by omega)]
    have v1 : vp_in (8 * nI i + nI j) 2048 := by rw [zz_y]; exact vp_in_nI (by omega) (by decide)
    obtain ⟨hs, es, hx⟩ := hX.2 i hic
    obtain ⟨zb, ez⟩ := hx j hj
    have e0 := zz_ie0 (a := rl_T xA (8 * i + j)) (by omega)
    have el : zz_i (rl_T xA (8 * i + j)) ≤ 0 ↔ rl_T xA (8 * i + j) ≤ 0 := zz_ile (b := 0) (by omega) (by decide)
    obtain ⟨a, hX2, hY2⟩ := ih (i + 1) (by omega)
    by_cases hq : ql_r t i j sA xA f
    · refine ⟨1, fun post hp => br_f h (hfx _ _ _ (ql_runs m r t o cnt tA sA xA w p c hX hic hj f hf _ (fun _ => br_f (by decide) hp) (fun z => absurd hq z))), fun w' sI vA uA nA yA hQ post hp => br_f h (br_f h2 ⟨v1, nm_r (e' := zz_i (rl_T xA (8 * i + j))) (by rw [c1]; exact (hQ i hic).2.2 j hj) (br_f (fun q => hq.1 (e0.mp q)) ⟨hv, ?_⟩)⟩)⟩
      rw [ci]
      by_cases hn : nA i = 0
      · refine br_t hn ?_
        have hno := (hQ i hic).2.1.mp hn
        rcases hq.2 with y | y | y
        · exact br_t (el.mpr y.1) (hfy _ _ _ _ _ _ _ _ _ _ (br_t y.2.symm hp))
        · exact br_f (fun q => y.1 (el.mp q)) (hfy _ _ _ _ _ _ _ _ _ _ (br_t y.2.symm hp))
        · exact absurd y hno
      · exact br_f hn hp
    · refine ⟨a, fun post hp => br_f h (hfx _ _ _ (ql_runs m r t o cnt tA sA xA w p c hX hic hj f hf _ (fun z => absurd z hq) (fun _ => br_t rfl (nm_r (nI_1 i) (hX2 post hp))))), fun w' sI vA uA nA yA hQ post hp => br_f h (br_f h2 ⟨v1, nm_r (e' := zz_i (rl_T xA (8 * i + j))) (by rw [c1]; exact (hQ i hic).2.2 j hj) ?_⟩)⟩
      have hn1 := nm_r (P := fun y => wY_carries_23 post (nI j) x2 (nI m) (nI r) (nI cnt) tA bA oA w' sI vA uA nA yA (e + 1) y) (nI_1 i) (hY2 w' sI vA uA nA yA hQ post hp)
      by_cases hz : rl_T xA (8 * i + j) = 0
      · exact br_t (e0.mpr hz) hn1
      · refine br_f (fun q => hz (e0.mp q)) ⟨hv, ?_⟩
        rw [ci]
        by_cases hn : nA i = 0
        · refine br_t hn ?_
          by_cases hle : rl_T xA (8 * i + j) ≤ 0
          · exact br_t (el.mpr hle) (hfy _ _ _ _ _ _ _ _ _ _ (br_f (fun q => hq ⟨hz, Or.inl ⟨hle, q.symm⟩⟩) hn1))
          · exact br_f (fun q => hle (el.mp q)) (hfy _ _ _ _ _ _ _ _ _ _ (br_f (fun q => hq ⟨hz, Or.inr (Or.inl ⟨hle, q.symm⟩)⟩) hn1))
        · refine absurd ?_ hq
          refine ⟨hz, Or.inr (Or.inr ?_)⟩
          exact Classical.byContradiction (fun z => hn ((hQ i hic).2.1.mpr z))
/-- whether every mode through j meets the set C -/
def ql_k (cnt j C : Nat) (sA : Nat → Int32) (i0 : Nat) : Prop := ∀ i, i0 ≤ i → i < cnt → (rl_S sA i).testBit j = true → rl_S sA i &&& C ≠ 0
theorem ql_cut (hX : rl_X cnt sA xA) (j C : Nat) (hj : j < 8) (post : Int32 → Prop) : ∀ e i, i + e = cnt → (ql_k cnt j C sA i → post 1) → (¬ ql_k cnt j C sA i → post 0) → wX_isCutOff_2 post (nI j) (nI C) (nI m) (nI r) (nI t) (nI o) (nI cnt) tA sA xA w p c (e + 1) (nI i) := by
  have hc := hX.1
  intro e
  induction e with
  | zero =>
    intro i hi h1 h0
    exact br_t (nI_le (by omega) (by omega)) (h1 (fun i' h1 h2 => by omega))
  | succ e ih =>
    intro i hi h1 h0
    obtain ⟨hs, es, _⟩ := hX.2 i (by omega)
    have hv : vp_in (nI i) 256 := vp_in_nI (by omega) (by decide)
    have ci : (nI i).toNatClampNeg = i := nI_clamp (by omega)
    have hand : rl_S sA i &&& C ≤ rl_S sA i := Nat.and_le_left
    have hand0 : nI (rl_S sA i &&& C) = 0 ↔ rl_S sA i &&& C = 0 := nI_eq (b := 0) (by omega) (by decide)
    have hnext : ((rl_S sA i).testBit j = true → rl_S sA i &&& C ≠ 0) → wX_isCutOff_2 post (nI j) (nI C) (nI m) (nI r) (nI t) (nI o) (nI cnt) tA sA xA w p c (e + 1) (nI (i + 1)) := by
      intro hq
      refine ih (i + 1) (by omega) (fun z => h1 (fun i' h1 h2 => ?_)) (fun z => h0 (fun y => z (fun i' h1 h2 => y i' (by omega) h2)))
      by_cases hii : i' = i
      · rw [hii]; exact hq
      · exact z i' (by omega) h2
    refine br_f (nI_ge (by omega) (by omega)) ⟨hv, ?_⟩
    rw [ci, es]
    by_cases hb : (rl_S sA i).testBit j = true
    · refine xw_b1 (by omega) (by omega) hb (br_t rfl ⟨hv, ?_⟩)
      rw [nx_and]
      by_cases hz : rl_S sA i &&& C = 0
      · exact br_t (hand0.mpr hz) (h0 (fun y => y i (by omega) (by omega) hb hz))
      · exact br_f (fun q => hz (hand0.mp q)) (nm_r (nI_1 i) (hnext (fun _ => hz)))
    · exact xw_b0 (by omega) (by omega) hb (br_f (by decide) (nm_r (nI_1 i) (hnext (fun z => absurd z hb))))
theorem ql_sil (hX : rl_X cnt sA xA) (j C : Nat) (hj : j < 8) (fm fr : Int32) (w' : Nat → Int64) (sI : Nat → Int32) (vA : Nat → Int64) (uA nA yA : Nat → Int32) (hQ : rl_Y cnt t sA xA uA nA yA) (post : Int32 → Prop) : ∀ e i, i + e = cnt → (ql_k cnt j C sA i → post 1) → (¬ ql_k cnt j C sA i → post 0) → wY_silences_2 post (nI C) (nI j) fm fr (nI cnt) tA bA oA w' sI vA uA nA yA (e + 1) (nI i) := by
  have hc := hX.1
  intro e
  induction e with
  | zero =>
    intro i hi h1 h0
    exact br_t (nI_le (by omega) (by omega)) (h1 (fun i' h1 h2 => by omega))
  | succ e ih =>
    intro i hi h1 h0
    obtain ⟨hs, es, _⟩ := hX.2 i (by omega)
    have eu := (hQ i (by omega)).1
    have hv : vp_in (nI i) 256 := vp_in_nI (by omega) (by decide)
    have ci : (nI i).toNatClampNeg = i := nI_clamp (by omega)
    have hand : rl_S sA i &&& C ≤ rl_S sA i := Nat.and_le_left
    have hand0 : nI (rl_S sA i &&& C) = 0 ↔ rl_S sA i &&& C = 0 := nI_eq (b := 0) (by omega) (by decide)
    have hnext : ((rl_S sA i).testBit j = true → rl_S sA i &&& C ≠ 0) → wY_silences_2 post (nI C) (nI j) fm fr (nI cnt) tA bA oA w' sI vA uA nA yA (e + 1) (nI (i + 1)) := by
      intro hq
      refine ih (i + 1) (by omega) (fun z => h1 (fun i' h1 h2 => ?_)) (fun z => h0 (fun y => z (fun i' h1 h2 => y i' (by omega) h2)))
      by_cases hii : i' = i
      · rw [hii]; exact hq
      · exact z i' (by omega) h2
    refine br_f (nI_ge (by omega) (by omega)) (br_f (nI_ge (b := 256) (by omega) (by decide)) ⟨hv, ?_⟩)
    rw [ci, eu]
    by_cases hb : (rl_S sA i).testBit j = true
    · refine yw_i1 _ (by omega) (by omega) hb (br_f (by decide) ⟨hv, ?_⟩)
      rw [nx_and]
      by_cases hz : rl_S sA i &&& C = 0
      · exact br_t (hand0.mpr hz) (h0 (fun y => y i (by omega) (by omega) hb hz))
      · exact br_f (fun q => hz (hand0.mp q)) (nm_r (nI_1 i) (hnext (fun _ => hz)))
    · exact yw_i0 _ (by omega) (by omega) hb (br_t rfl (nm_r (nI_1 i) (hnext (fun z => absurd z hb))))
theorem ql_cp (hX : rl_X cnt sA xA) (j k : Nat) (hj : j < 8) (hk : k < 8) (fm fr : Int32) (w' : Nat → Int64) (sI : Nat → Int32) (vA : Nat → Int64) (uA nA yA : Nat → Int32) (hQ : rl_Y cnt t sA xA uA nA yA) (post : Int32 → SY → Prop)
    (hp : ∀ x3 x4 : Int32, (x3 = 0 ↔ ∀ i, i < cnt → ¬ (rl_S sA i).testBit j = true) → (x4 = 0 ↔ ¬ ∀ i, i < cnt → (rl_S sA i).testBit j = true → (rl_S sA i).testBit k = true) → wY_coupled_88 post x3 x4 fm fr (nI cnt) tA bA oA w' sI vA uA nA yA) : ∀ e i (x3 x4 : Int32), i + e = cnt → (x3 = 0 ↔ ∀ i', i' < i → ¬ (rl_S sA i').testBit j = true) → (x4 = 0 ↔ ¬ ∀ i', i' < i → (rl_S sA i').testBit j = true → (rl_S sA i').testBit k = true) → wY_coupled_30 post (nI j) (nI k) fm fr (nI cnt) tA bA oA w' sI vA uA nA yA (e + 1) x3 x4 (nI i) := by
  have hc := hX.1
  intro e
  induction e with
  | zero =>
    intro i x3 x4 hi h3 h4
    have hic : i = cnt := by omega
    subst hic
    exact br_t (nI_le (by omega) (by omega)) (hp x3 x4 h3 h4)
  | succ e ih =>
    intro i x3 x4 hi h3 h4
    obtain ⟨hs, es, _⟩ := hX.2 i (by omega)
    have eu := (hQ i (by omega)).1
    have hv : vp_in (nI i) 256 := vp_in_nI (by omega) (by decide)
    have ci : (nI i).toNatClampNeg = i := nI_clamp (by omega)
    refine br_f (nI_ge (by omega) (by omega)) (br_f (nI_ge (b := 256) (by omega) (by decide)) ⟨hv, ?_⟩)
    rw [ci, eu]
    by_cases hb : (rl_S sA i).testBit j = true
    · refine yw_i1 _ (by omega) (by omega) hb (br_f (by decide) ⟨hv, ?_⟩)
      by_cases hbk : (rl_S sA i).testBit k = true
      · refine yw_i1 _ (by omega) (by omega) hbk (br_f (by decide) (nm_r (nI_1 i) (ih (i + 1) 1 x4 (by omega) ⟨fun z => absurd z (by decide), fun z => absurd hb (z i (by omega))⟩ ?_)))
        rw [h4]
        refine not_congr ⟨fun z i' hi' hb' => ?_, fun z i' hi' => z i' (by omega)⟩
        by_cases hii : i' = i
        · rw [hii]; exact hbk
        · exact z i' (by omega) hb'
      · exact yw_i0 _ (by omega) (by omega) hbk (br_t rfl (nm_r (nI_1 i) (ih (i + 1) 1 0 (by omega) ⟨fun z => absurd z (by decide), fun z => absurd hb (z i (by omega))⟩ ⟨fun _ z => hbk (z i (by omega) hb), fun _ => rfl⟩)))
    · refine yw_i0 _ (by omega) (by omega) hb (br_t rfl (nm_r (nI_1 i) (ih (i + 1) x3 x4 (by omega) ?_ ?_)))
      · rw [h3]
        refine ⟨fun z i' hi' => ?_, fun z i' hi' => z i' (by omega)⟩
        by_cases hii : i' = i
        · rw [hii]; exact hb
        · exact z i' (by omega)
      · rw [h4]
        refine not_congr ⟨fun z i' hi' hb' => ?_, fun z i' hi' => z i' (by omega)⟩
        by_cases hii : i' = i
        · rw [hii] at hb'; exact absurd hb' hb
        · exact z i' (by omega) hb'
end
theorem i_vc_carries {k : Nat} {u : SX} {v : SY} (I : i_Rel k u v) (hk : k + 4 ≤ 2050) (v1 : Int32) (v2 : Int32) : wpX_carries (fun r => wpY_carries (fun r' v' => r' = r ∧ i_Rel (k + 4) u v') v v1 v2) u v1 v2 := by
  have I' := I
  obtain ⟨m, r, t, o, cnt, tA, sA, xA, w, p, c, fc, bA, oA, w', sI, vA, uA, nA, yA, hm, hr, hX, rfl, rfl, hY⟩ := rl_open I
  have hc := hX.1
  unfold wpX_carries wpY_carries
  rcases gd_ix v1 (n := r) (by omega) with h1 | ⟨j, hj, rfl⟩
  · exact gd_J0 h1 (br_t rfl (gd_j0 h1 (br_f (by decide) ⟨rfl, I'⟩)))
  · refine gd_J1 hr hj (br_f (by decide) ?_)
    by_cases h2 : v2 = 0
    · exact br_t h2 (gd_j1 hr hj (br_t rfl (br_t h2 ⟨rfl, I'⟩)))
    · obtain ⟨a, h1, h3⟩ := ql_carries m r t o cnt tA sA xA w p c bA oA hX j (by omega) v2 cnt 0 (by omega)
      exact br_f h2 ⟨cnt + 1, h1 _ (gd_j1 hr hj (br_t rfl (br_f h2 (hY _ (fun w1 s1 a1 u1 n1 y1 hQ hR => ⟨cnt + 1, h3 w1 s1 a1 u1 n1 y1 hQ _ ⟨rfl, hR⟩⟩)))))⟩
theorem ql_and2 {S k : Nat} : S &&& 2 ^ k ≠ 0 ↔ S.testBit k = true := by
  constructor
  · intro h
    cases hb : S.testBit k
    · refine absurd ?_ h
      apply Nat.eq_of_testBit_eq
      intro i
      rw [Nat.testBit_and, Nat.testBit_two_pow, Nat.zero_testBit]
      by_cases hi : k = i
      · rw [← hi, hb]; rfl
      · rw [decide_eq_false hi, Bool.and_false]
    · rfl
  · intro h z
    have h1 : (S &&& 2 ^ k).testBit k = false := by rw [z, Nat.zero_testBit]
    rw [Nat.testBit_and, Nat.testBit_two_pow_self, h] at h1
    exact absurd h1 (by decide)
theorem i_vc_coupled {k : Nat} {u : SX} {v : SY} (I : i_Rel k u v) (hk : k + 4 ≤ 2050) (v1 : Int32) (v2 : Int32) : wpX_coupled (fun r => wpY_coupled (fun r' v' => r' = r ∧ i_Rel (k + 4) u v') v v1 v2) u v1 v2 := by
  have I' := I
  obtain ⟨m, r, t, o, cnt, tA, sA, xA, w, p, c, fc, bA, oA, w', sI, vA, uA, nA, yA, hm, hr, hX, rfl, rfl, hY⟩ := rl_open I
  have hc := hX.1
  unfold wpX_coupled wpY_coupled
  rcases gd_ix v1 (n := r) (by omega) with h1 | ⟨j, hj, rfl⟩
  · exact gd_J0 h1 (br_t rfl (gd_j0 h1 (br_f (by decide) ⟨rfl, I'⟩)))
  · refine gd_J1 hr hj (br_f (by decide) ?_)
    rcases gd_ix v2 (n := r) (by omega) with h2 | ⟨q, hq, rfl⟩
    · exact gd_J0 h2 (br_t rfl (gd_j1 hr hj (br_t rfl (gd_j0 h2 (br_f (by decide) ⟨rfl, I'⟩)))))
    · refine gd_J1 hr hq (br_f (by decide) ?_)
      have hend : ∀ a : Int32, (∀ (x3 x4 : Int32), (x3 = 0 ↔ ∀ i, i < cnt → ¬ (rl_S sA i).testBit j = true) → (x4 = 0 ↔ ¬ ∀ i, i < cnt → (rl_S sA i).testBit j = true → (rl_S sA i).testBit q = true) → (x3 = 0 ∧ a = -2) ∨ (¬ x3 = 0 ∧ x4 = 0 ∧ a = 0) ∨ (¬ x3 = 0 ∧ ¬ x4 = 0 ∧ a = 1)) → wpY_badReaction (fun r_1 => (((r_1 = 0 → (wpY_badReaction (fun r_15 => (((r_15 = 0 → (wpY_list (fun u => match u with | (f_m_30, f_r_31, f_count_32, a_table_33, a_both_34, a_off_35, a_work_36, a_solvedIn_37, a_v_38, a_support_39, a_turns_40, a_value_41) => (∃ n30 : Nat, wY_coupled_30 (fun r' v' => r' = a ∧ i_Rel (k + 4) (nI m, nI r, nI t, nI o, nI cnt, tA, sA, xA, w, p, c) v') (nI j) (nI q) f_m_30 f_r_31 f_count_32 a_table_33 a_both_34 a_off_35 a_work_36 a_solvedIn_37 a_v_38 a_support_39 a_turns_40 a_value_41 n30 0 1 0)) (nI m, nI r, fc, tA, bA, oA, w', sI, vA, uA, nA, yA))) ∧ (¬ r_15 = 0 → (-1 = a ∧ i_Rel (k + 4) (nI m, nI r, nI t, nI o, nI cnt, tA, sA, xA, w, p, c) (nI m, nI r, fc, tA, bA, oA, w', sI, vA, uA, nA, yA)))))) (nI m, nI r, fc, tA, bA, oA, w', sI, vA, uA, nA, yA) (nI q))) ∧ (¬ r_1 = 0 → (-1 = a ∧ i_Rel (k + 4) (nI m, nI r, nI t, nI o, nI cnt, tA, sA, xA, w, p, c) (nI m, nI r, fc, tA, bA, oA, w', sI, vA, uA, nA, yA)))))) (nI m, nI r, fc, tA, bA, oA, w', sI, vA, uA, nA, yA) (nI j) := by
        intro a ha
        refine gd_j1 hr hj (br_t rfl (gd_j1 hr hq (br_t rfl (hY _ (fun w1 s1 a1 u1 n1 y1 hQ hR => ⟨cnt + 1, ?_⟩)))))
        refine ql_cp t cnt tA sA xA bA oA hX j q (by omega) (by omega) (nI m) (nI r) w1 s1 a1 u1 n1 y1 hQ _ (fun x3 x4 h3 h4 => ?_) cnt 0 0 1 (by omega) ⟨fun _ i hi => absurd hi (Nat.not_lt_zero _), fun _ => rfl⟩ ⟨fun z => absurd z (by decide), fun z => absurd (fun i hi => absurd hi (Nat.not_lt_zero _)) z⟩
        rcases ha x3 x4 h3 h4 with ⟨y1, rfl⟩ | ⟨y1, y2, rfl⟩ | ⟨y1, y2, rfl⟩
        · exact br_t y1 ⟨rfl, hR⟩
        · exact br_f y1 (br_t y2 ⟨rfl, hR⟩)
        · exact br_f y1 (br_f y2 ⟨rfl, hR⟩)
      have k0 : ql_k cnt j 0 sA 0 ↔ ∀ i, i < cnt → ¬ (rl_S sA i).testBit j = true := ⟨fun z i hi hb => z i (Nat.zero_le _) hi hb (Nat.and_zero _), fun z i _ hi hb => absurd hb (z i hi)⟩
      have k1 : ql_k cnt j (2 ^ q) sA 0 ↔ ∀ i, i < cnt → (rl_S sA i).testBit j = true → (rl_S sA i).testBit q = true := ⟨fun z i hi hb => ql_and2.mp (z i (Nat.zero_le _) hi hb), fun z i _ hi hb => ql_and2.mpr (z i hi hb)⟩
      refine ⟨cnt + 1, ql_cut m r t o cnt tA sA xA w p c hX j 0 (by omega) _ cnt 0 (by omega) (fun hk0 => ?_) (fun hk0 => ?_)⟩
      · refine br_f (by decide) (hend _ (fun x3 x4 h3 h4 => Or.inl ⟨h3.mpr (k0.mp hk0), rfl⟩))
      · refine br_t rfl ?_
        rw [zz_sh (by omega)]
        refine ⟨cnt + 1, ql_cut m r t o cnt tA sA xA w p c hX j (2 ^ q) (by omega) _ cnt 0 (by omega) (fun hk1 => ?_) (fun hk1 => ?_)⟩
        · refine br_f (by decide) (hend _ (fun x3 x4 h3 h4 => Or.inr (Or.inr ⟨fun z => hk0 (k0.mpr (h3.mp z)), fun z => h4.mp z (k1.mp hk1), rfl⟩)))
        · refine br_t rfl (hend _ (fun x3 x4 h3 h4 => Or.inr (Or.inl ⟨fun z => hk0 (k0.mpr (h3.mp z)), h4.mpr (fun z => hk1 (k1.mpr z)), rfl⟩)))
theorem ql_cnt (post : Int32 → Prop) (S : Nat) (hS : S < 256) (hp : post (nI (es_n S 8))) : wpX_countOf post (nI S) := by
  have H : ∀ (e j n : Nat), j + e = 8 → e < n → wX_countOf_4 post (nI S) n (nI (es_n S j)) (nI j) := by
    intro e
    induction e with
    | zero =>
      intro j n hj hn
      obtain ⟨n, rfl⟩ : ∃ k, n = k + 1 := ⟨n - 1, by omega⟩
      have hj8 : j = 8 := by omega
      subst hj8
      rw [wX_countOf_4]
      exact pk_le 8 8 (fun _ => hp) (fun h => by omega)
    | succ e ih =>
      intro j n hj hn
      obtain ⟨n, rfl⟩ : ∃ k, n = k + 1 := ⟨n - 1, by omega⟩
      have h1 := ih (j + 1) n (by omega) (by omega)
      rw [wX_countOf_4]
      refine pk_le 8 j (fun h => by omega) (fun h => ?_)
      by_cases hb : S.testBit j = true
      · rw [show es_n S (j + 1) = es_n S j + 1 by show es_n S j + (if _ then 1 else 0) = _; rw [if_pos hb]] at h1
        exact xw_b1 (by omega) (by omega) hb (nm_r (nI_1 _) (nm_r (nI_1 j) h1))
      · rw [show es_n S (j + 1) = es_n S j by show es_n S j + (if _ then 1 else 0) = _; rw [if_neg hb]; rfl] at h1
        exact xw_b0 (by omega) (by omega) hb (nm_r (Int32.add_zero _) (nm_r (nI_1 j) h1))
  exact ⟨9, H 8 0 9 rfl (by decide)⟩
section
variable (m r t o cnt : Nat) (tA sA xA w p c : Nat → Int32) (bA oA : Nat → Int32)
theorem ql_cs (hX : rl_X cnt sA xA) (hr : r ≤ 8) (j : Nat) (hj : j < 8) : ∀ e C (x : Int32), C + e = 2 ^ r → ∃ a : Int32, (∀ post : Int32 → Prop, post a → wX_cutSize_23 post (nI j) (nI (2 ^ r)) (nI m) (nI r) (nI t) (nI o) (nI cnt) tA sA xA w p c (e + 1) x (nI C)) ∧
    (∀ (w' : Nat → Int64) (sI : Nat → Int32) (vA : Nat → Int64) (uA nA yA : Nat → Int32), rl_Y cnt t sA xA uA nA yA → ∀ post : Int32 → SY → Prop, post a (nI m, nI r, nI cnt, tA, bA, oA, w', sI, vA, uA, nA, yA) → wY_cutSize_19 post (nI j) (nI m) (nI r) (nI cnt) tA bA oA w' sI vA uA nA yA (e + 1) x (nI C)) := by
  have hc := hX.1
  have h256 := md_p8 hr
  have hsh : (1 : Int32) <<< (nI r &&& 31) = nI (2 ^ r) := zz_sh (by omega)
  intro e
  induction e with
  | zero =>
    intro C x hC
    have h : nI (2 ^ r) ≤ nI C := nI_le (by omega) (by omega)
    exact ⟨x, fun post hp => br_t h hp, fun w' sI vA uA nA yA hQ post hp => br_t (by rw [hsh]; exact h) hp⟩
  | succ e ih =>
    intro C x hC
    have h : ¬ nI (2 ^ r) ≤ nI C := nI_ge (by omega) (by omega)
    have h' : ¬ (1 : Int32) <<< (nI r &&& 31) ≤ nI C := by rw [hsh]; exact h
    have hsk : ∀ a : Int32, ((∀ post : Int32 → Prop, post a → wX_cutSize_23 post (nI j) (nI (2 ^ r)) (nI m) (nI r) (nI t) (nI o) (nI cnt) tA sA xA w p c (e + 1) x (nI (C + 1))) ∧
        (∀ (w' : Nat → Int64) (sI : Nat → Int32) (vA : Nat → Int64) (uA nA yA : Nat → Int32), rl_Y cnt t sA xA uA nA yA → ∀ post : Int32 → SY → Prop, post a (nI m, nI r, nI cnt, tA, bA, oA, w', sI, vA, uA, nA, yA) → wY_cutSize_19 post (nI j) (nI m) (nI r) (nI cnt) tA bA oA w' sI vA uA nA yA (e + 1) x (nI (C + 1)))) → True := fun _ _ => trivial
    by_cases hb : C.testBit j = true
    · obtain ⟨a, hX2, hY2⟩ := ih (C + 1) x (by omega)
      exact ⟨a, fun post hp => br_f h (xw_b1 (by omega) (by omega) hb (br_f (by decide) (nm_r (nI_1 C) (hX2 post hp)))), fun w' sI vA uA nA yA hQ post hp => br_f h' (yw_i1 _ (by omega) (by omega) hb (br_f (by decide) (nm_r (nI_1 C) (hY2 w' sI vA uA nA yA hQ post hp))))⟩
    · by_cases hq : ql_k cnt j C sA 0
      · by_cases hx : x < 0
        · obtain ⟨a, hX2, hY2⟩ := ih (C + 1) (nI (es_n C 8)) (by omega)
          refine ⟨a, fun post hp => br_f h (xw_b0 (by omega) (by omega) hb (br_t rfl ⟨cnt + 1, ql_cut m r t o cnt tA sA xA w p c hX j C hj _ cnt 0 (by omega) (fun _ => br_f (by decide) (ql_cnt _ C (by omega) (br_t hx (nm_r (nI_1 C) (hX2 post hp))))) (fun z => absurd hq z)⟩)), fun w' sI vA uA nA yA hQ post hp => br_f h' (yw_i0 _ (by omega) (by omega) hb (br_t rfl ⟨cnt + 1, ql_sil t cnt tA sA xA bA oA hX j C hj (nI m) (nI r) w' sI vA uA nA yA hQ _ cnt 0 (by omega) (fun _ => br_f (by decide) (yl_num _ _ C (by omega) (br_t hx (nm_r (nI_1 C) (hY2 w' sI vA uA nA yA hQ post hp))))) (fun z => absurd hq z)⟩))⟩
        · by_cases hle : x ≤ nI (es_n C 8)
          · obtain ⟨a, hX2, hY2⟩ := ih (C + 1) x (by omega)
            refine ⟨a, fun post hp => br_f h (xw_b0 (by omega) (by omega) hb (br_t rfl ⟨cnt + 1, ql_cut m r t o cnt tA sA xA w p c hX j C hj _ cnt 0 (by omega) (fun _ => br_f (by decide) (ql_cnt _ C (by omega) (br_f hx (br_t hle (nm_r (nI_1 C) (hX2 post hp)))))) (fun z => absurd hq z)⟩)), fun w' sI vA uA nA yA hQ post hp => br_f h' (yw_i0 _ (by omega) (by omega) hb (br_t rfl ⟨cnt + 1, ql_sil t cnt tA sA xA bA oA hX j C hj (nI m) (nI r) w' sI vA uA nA yA hQ _ cnt 0 (by omega) (fun _ => br_f (by decide) (yl_num _ _ C (by omega) (br_f hx (br_t hle (nm_r (nI_1 C) (hY2 w' sI vA uA nA yA hQ post hp)))))) (fun z => absurd hq z)⟩))⟩
          · obtain ⟨a, hX2, hY2⟩ := ih (C + 1) (nI (es_n C 8)) (by omega)
            refine ⟨a, fun post hp => br_f h (xw_b0 (by omega) (by omega) hb (br_t rfl ⟨cnt + 1, ql_cut m r t o cnt tA sA xA w p c hX j C hj _ cnt 0 (by omega) (fun _ => br_f (by decide) (ql_cnt _ C (by omega) (br_f hx (br_f hle (nm_r (nI_1 C) (hX2 post hp)))))) (fun z => absurd hq z)⟩)), fun w' sI vA uA nA yA hQ post hp => br_f h' (yw_i0 _ (by omega) (by omega) hb (br_t rfl ⟨cnt + 1, ql_sil t cnt tA sA xA bA oA hX j C hj (nI m) (nI r) w' sI vA uA nA yA hQ _ cnt 0 (by omega) (fun _ => br_f (by decide) (yl_num _ _ C (by omega) (br_f hx (br_f hle (nm_r (nI_1 C) (hY2 w' sI vA uA nA yA hQ post hp)))))) (fun z => absurd hq z)⟩))⟩
      · obtain ⟨a, hX2, hY2⟩ := ih (C + 1) x (by omega)
        refine ⟨a, fun post hp => br_f h (xw_b0 (by omega) (by omega) hb (br_t rfl ⟨cnt + 1, ql_cut m r t o cnt tA sA xA w p c hX j C hj _ cnt 0 (by omega) (fun z => absurd z hq) (fun _ => br_t rfl (nm_r (nI_1 C) (hX2 post hp)))⟩)), fun w' sI vA uA nA yA hQ post hp => br_f h' (yw_i0 _ (by omega) (by omega) hb (br_t rfl ⟨cnt + 1, ql_sil t cnt tA sA xA bA oA hX j C hj (nI m) (nI r) w' sI vA uA nA yA hQ _ cnt 0 (by omega) (fun z => absurd z hq) (fun _ => br_t rfl (nm_r (nI_1 C) (hY2 w' sI vA uA nA yA hQ post hp)))⟩))⟩
end
theorem i_vc_cutSize {k : Nat} {u : SX} {v : SY} (I : i_Rel k u v) (hk : k + 4 ≤ 2050) (v1 : Int32) : wpX_cutSize (fun r => wpY_cutSize (fun r' v' => r' = r ∧ i_Rel (k + 4) u v') v v1) u v1 := by
  have I' := I
  obtain ⟨m, r, t, o, cnt, tA, sA, xA, w, p, c, fc, bA, oA, w', sI, vA, uA, nA, yA, hm, hr, hX, rfl, rfl, hY⟩ := rl_open I
  have hc := hX.1
  unfold wpX_cutSize wpY_cutSize
  rcases gd_ix v1 (n := r) (by omega) with h1 | ⟨j, hj, rfl⟩
  · exact gd_J0 h1 (br_t rfl (gd_j0 h1 (br_f (by decide) ⟨rfl, I'⟩)))
  · obtain ⟨a, h1, h2⟩ := ql_cs m r t o cnt tA sA xA w p c bA oA hX hr j (by omega) (2 ^ r) 0 (-2) (by omega)
    exact gd_J1 hr hj (br_f (by decide) (nm_r (zz_sh (by omega)) ⟨2 ^ r + 1, h1 _ (gd_j1 hr hj (br_t rfl (hY _ (fun w1 s1 a1 u1 n1 y1 hQ hR => ⟨2 ^ r + 1, h2 w1 s1 a1 u1 n1 y1 hQ _ ⟨rfl, hR⟩⟩))))⟩))
