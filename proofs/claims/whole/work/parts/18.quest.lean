/-! the questions that read the list -/
def rl_S (sA : Nat → Int32) (i : Nat) : Nat := (sA i).toNatClampNeg
def rl_X (cnt : Nat) (sA xA : Nat → Int32) : Prop := cnt < 256 ∧ ∀ i, i < cnt → rl_S sA i < 256 ∧ sA i = nI (rl_S sA i) ∧ ∀ j, j < 8 → (rl_T xA (8 * i + j)).natAbs ≤ 1944 ∧ xA (8 * i + j) = zz_i (rl_T xA (8 * i + j))
def rl_Y (cnt t : Nat) (sA xA uA nA yA : Nat → Int32) : Prop := ∀ i, i < cnt → uA i = nI (rl_S sA i) ∧ (nA i = 0 ↔ sg_one (rl_S sA i) t ≠ 0) ∧ ∀ j, j < 8 → yA (8 * i + j) = zz_i (rl_T xA (8 * i + j))
theorem rl_qx {m r t o : Nat} {T : Nat → Int} {sA xA : Nat → Int32} (hm : m ≤ 4) (hr : r ≤ 8) (hT : ∀ i, (T i).natAbs ≤ 3) (hL : md_L m r T t o (2 ^ r) sA xA) : rl_X (md_c m r T t o (2 ^ r)) sA xA := by
  have h256 := md_p8 hr
  refine ⟨Nat.lt_of_lt_of_le (md_cb _ (Nat.two_pow_pos r)) h256, fun i hi => ?_⟩
  obtain ⟨S, hS, hg, rfl⟩ := md_ce _ hi
  obtain ⟨l1, l2⟩ := hL S hS hg
  have e : rl_S sA (md_c m r T t o S) = S := by unfold rl_S; rw [l1]; exact nI_clamp (by omega)
  rw [e]
  refine ⟨by omega, l1, fun j hj => ?_⟩
  have hb := md_xb (t := t) hm hT hg.2.2.2.1 hj
  have e2 : rl_T xA (8 * md_c m r T t o S + j) = md_x m S T t j := by unfold rl_T; rw [l2 j hj]; exact zz_it (by omega)
  rw [e2]
  exact ⟨hb, l2 j hj⟩
theorem rl_qy {m r t o : Nat} {T : Nat → Int} {sA xA uA nA yA : Nat → Int32} (hm : m ≤ 4) (hr : r ≤ 8) (hT : ∀ i, (T i).natAbs ≤ 3) (hL : md_L m r T t o (2 ^ r) sA xA) (hM : md_M m r T t o (2 ^ r) uA nA yA) : rl_Y (md_c m r T t o (2 ^ r)) t sA xA uA nA yA := by
  have h256 := md_p8 hr
  intro i hi
  obtain ⟨S, hS, hg, rfl⟩ := md_ce _ hi
  obtain ⟨l1, l2⟩ := hL S hS hg
  obtain ⟨k1, k2, k3⟩ := hM S hS hg
  have e : rl_S sA (md_c m r T t o S) = S := by unfold rl_S; rw [l1]; exact nI_clamp (by omega)
  rw [e]
  refine ⟨k1, k2, fun j hj => ?_⟩
  have hb := md_xb (t := t) hm hT hg.2.2.2.1 hj
  have e2 : rl_T xA (8 * md_c m r T t o S + j) = md_x m S T t j := by unfold rl_T; rw [l2 j hj]; exact zz_it (by omega)
  rw [e2]
  exact k3 j hj
theorem rl_open {u : SX} {v : SY} (I : rl_R u v) : ∃ (m r t o cnt : Nat) (tA sA xA w p c : Nat → Int32) (fc : Int32) (bA oA : Nat → Int32) (w' : Nat → Int64) (sI : Nat → Int32) (vA : Nat → Int64) (uA nA yA : Nat → Int32), m ≤ 4 ∧ r ≤ 8 ∧ rl_X cnt sA xA ∧ u = (nI m, nI r, nI t, nI o, nI cnt, tA, sA, xA, w, p, c) ∧ v = (nI m, nI r, fc, tA, bA, oA, w', sI, vA, uA, nA, yA) ∧
    ∀ post : SY → Prop, (∀ (w' : Nat → Int64) (sI : Nat → Int32) (vA : Nat → Int64) (uA nA yA : Nat → Int32), rl_Y cnt t sA xA uA nA yA → rl_R u (nI m, nI r, nI cnt, tA, bA, oA, w', sI, vA, uA, nA, yA) → post (nI m, nI r, nI cnt, tA, bA, oA, w', sI, vA, uA, nA, yA)) → wpY_list post v := by
  obtain ⟨m, r, t, o, tA, sA, xA, w, p, c, fc, bA, oA, w', sI, vA, uA, nA, yA, hm, hr, ht, ho, hT, hB, hO, hL, rfl, rfl⟩ := I
  refine ⟨m, r, t, o, md_c m r (rl_T tA) t o (2 ^ r), tA, sA, xA, w, p, c, fc, bA, oA, w', sI, vA, uA, nA, yA, hm, hr, rl_qx hm hr hT hL, rfl, rfl, fun post hp => ?_⟩
  refine yl_list post fc tA bA oA w' sI vA uA nA yA m r t o (rl_T tA) hm hr hT (rl_A tA) hB hO (fun w1 s1 v1 u1 n1 y1 hM => hp w1 s1 v1 u1 n1 y1 (rl_qy hm hr hT hL hM) ?_)
  exact ⟨m, r, t, o, tA, sA, xA, w, p, c, _, bA, oA, w1, s1, v1, u1, n1, y1, hm, hr, ht, ho, hT, hB, hO, hL, rfl, rfl⟩
theorem i_vc_modes {k : Nat} {u : SX} {v : SY} (I : i_Rel k u v) (hk : k + 4 ≤ 2050) : wpX_modes (fun r => wpY_modes (fun r' v' => r' = r ∧ i_Rel (k + 4) u v') v) u := by
  obtain ⟨m, r, t, o, cnt, tA, sA, xA, w, p, c, fc, bA, oA, w', sI, vA, uA, nA, yA, hm, hr, hX, rfl, rfl, hY⟩ := rl_open I
  have hc := hX.1
  unfold wpX_modes wpY_modes
  exact hY _ (fun w1 s1 a1 u1 n1 y1 hQ hR => ⟨rfl, hR⟩)
theorem i_vc_support {k : Nat} {u : SX} {v : SY} (I : i_Rel k u v) (hk : k + 4 ≤ 2050) (v1 : Int32) : wpX_support (fun r => wpY_support (fun r' v' => r' = r ∧ i_Rel (k + 4) u v') v v1) u v1 := by
  obtain ⟨m, r, t, o, cnt, tA, sA, xA, w, p, c, fc, bA, oA, w', sI, vA, uA, nA, yA, hm, hr, hX, rfl, rfl, hY⟩ := rl_open I
  have hc := hX.1
  unfold wpX_support wpY_support
  rcases gd_ix v1 (n := cnt) (by omega) with h1 | ⟨i, hi, rfl⟩
  · refine gd_M0 h1 (br_t rfl (hY _ (fun w1 s1 a1 u1 n1 y1 hQ hR => ?_)))
    by_cases h0 : v1 < 0
    · exact br_t h0 ⟨rfl, hR⟩
    · exact br_f h0 (br_f (Int32.not_lt.mpr (h1.resolve_left h0)) ⟨rfl, hR⟩)
  · refine gd_M1 hc hi (br_f (by decide) ⟨vp_in_nI (by omega) (by decide), hY _ (fun w1 s1 a1 u1 n1 y1 hQ hR => ?_)⟩)
    refine br_f (nI_pos (by omega)) (br_t (nI_lt hi (by omega)) ⟨vp_in_nI (by omega) (by decide), ?_, hR⟩)
    rw [nI_clamp (by omega), (hQ i hi).1]
    exact (hX.2 i hi).2.1.symm
theorem i_vc_flux {k : Nat} {u : SX} {v : SY} (I : i_Rel k u v) (hk : k + 4 ≤ 2050) (v1 : Int32) (v2 : Int32) : wpX_flux (fun r => wpY_flux (fun r' v' => r' = r ∧ i_Rel (k + 4) u v') v v1 v2) u v1 v2 := by
  obtain ⟨m, r, t, o, cnt, tA, sA, xA, w, p, c, fc, bA, oA, w', sI, vA, uA, nA, yA, hm, hr, hX, rfl, rfl, hY⟩ := rl_open I
  have hc := hX.1
  unfold wpX_flux wpY_flux
  rcases gd_ix v1 (n := cnt) (by omega) with h1 | ⟨i, hi, rfl⟩
  · refine gd_M0 h1 (br_t rfl (hY _ (fun w1 s1 a1 u1 n1 y1 hQ hR => ?_)))
    by_cases h0 : v1 < 0
    · exact br_t h0 ⟨rfl, hR⟩
    · exact br_f h0 (br_t (h1.resolve_left h0) ⟨rfl, hR⟩)
  · refine gd_M1 hc hi (br_f (by decide) ?_)
    rcases gd_ix v2 (n := r) (by omega) with h2 | ⟨j, hj, rfl⟩
    · refine gd_J0 h2 (br_t rfl (hY _ (fun w1 s1 a1 u1 n1 y1 hQ hR => ?_)))
      exact br_f (nI_pos (by omega)) (br_f (nI_ge hi (by omega)) (gd_j0 h2 (br_f (by decide) ⟨rfl, hR⟩)))
    · have a1 : vp_in (nI i * 8 + nI j) 2048 := by rw [zz_x]; exact vp_in_nI (by omega) (by decide)
      have a2 : vp_in (8 * nI i + nI j) 2048 := by rw [zz_y]; exact vp_in_nI (by omega) (by decide)
      refine gd_J1 hr hj (br_f (by decide) ⟨a1, hY _ (fun w1 s1 a1 u1 n1 y1 hQ hR => ?_)⟩)
      refine br_f (nI_pos (by omega)) (br_f (nI_ge hi (by omega)) (gd_j1 hr hj (br_t rfl ⟨a2, ?_, hR⟩)))
      rw [zz_x, zz_y, nI_clamp (by omega), (hQ i hi).2.2 j (by omega)]
      exact ((hX.2 i hi).2.2 j (by omega)).2.symm
theorem gd_T1 {post : Int32 → Prop} {S t : Nat} {fm fr fo fc : Int32} {tA sA xA w p c : Nat → Int32} (h : sg_one S t = 0) (hp : post 1) : wpX_isAllTwoWay post (fm, fr, nI t, fo, fc, tA, sA, xA, w, p, c) (nI S) := by
  refine br_t ?_ hp
  rw [sg_o32, h]; rfl
theorem gd_T0 {post : Int32 → Prop} {S t : Nat} {fm fr fo fc : Int32} {tA sA xA w p c : Nat → Int32} (hS : S < 256) (h : sg_one S t ≠ 0) (hp : post 0) : wpX_isAllTwoWay post (fm, fr, nI t, fo, fc, tA, sA, xA, w, p, c) (nI S) := by
  refine br_f ?_ hp
  have := @sg_ole S t
  rw [sg_o32]; exact nI_ne0 (by omega) (by omega)
theorem i_vc_turnable {k : Nat} {u : SX} {v : SY} (I : i_Rel k u v) (hk : k + 4 ≤ 2050) (v1 : Int32) : wpX_turnable (fun r => wpY_turnable (fun r' v' => r' = r ∧ i_Rel (k + 4) u v') v v1) u v1 := by
  obtain ⟨m, r, t, o, cnt, tA, sA, xA, w, p, c, fc, bA, oA, w', sI, vA, uA, nA, yA, hm, hr, hX, rfl, rfl, hY⟩ := rl_open I
  have hc := hX.1
  unfold wpX_turnable wpY_turnable
  rcases gd_ix v1 (n := cnt) (by omega) with h1 | ⟨i, hi, rfl⟩
  · refine gd_M0 h1 (br_t rfl (hY _ (fun w1 s1 a1 u1 n1 y1 hQ hR => ?_)))
    by_cases h0 : v1 < 0
    · exact br_t h0 ⟨rfl, hR⟩
    · exact br_f h0 (br_f (Int32.not_lt.mpr (h1.resolve_left h0)) ⟨rfl, hR⟩)
  · refine gd_M1 hc hi (br_f (by decide) ⟨vp_in_nI (by omega) (by decide), ?_⟩)
    obtain ⟨hs, es, _⟩ := hX.2 i hi
    rw [nI_clamp (by omega), es]
    by_cases ht : sg_one (rl_S sA i) t = 0
    · refine gd_T1 ht (br_f (by decide) (hY _ (fun w1 s1 a1 u1 n1 y1 hQ hR => ?_)))
      refine br_f (nI_pos (by omega)) (br_t (nI_lt hi (by omega)) ⟨vp_in_nI (by omega) (by decide), ?_⟩)
      exact br_f (fun z => (hQ i hi).2.1.mp z ht) ⟨rfl, hR⟩
    · refine gd_T0 hs ht (br_t rfl (hY _ (fun w1 s1 a1 u1 n1 y1 hQ hR => ?_)))
      refine br_f (nI_pos (by omega)) (br_t (nI_lt hi (by omega)) ⟨vp_in_nI (by omega) (by decide), ?_⟩)
      exact br_t ((hQ i hi).2.1.mpr ht) ⟨rfl, hR⟩
section
variable (m r t o cnt : Nat) (tA sA xA w p c : Nat → Int32) (bA oA : Nat → Int32)
theorem ql_find (hX : rl_X cnt sA xA) (x1 : Int32) : ∀ e i, i + e = cnt → ∃ a : Int32, (∀ post : Int32 → Prop, post a → wX_find_2 post x1 (nI m) (nI r) (nI t) (nI o) (nI cnt) tA sA xA w p c (e + 1) (nI i)) ∧
    (∀ (w' : Nat → Int64) (sI : Nat → Int32) (vA : Nat → Int64) (uA nA yA : Nat → Int32), rl_Y cnt t sA xA uA nA yA → ∀ post : Int32 → SY → Prop, post a (nI m, nI r, nI cnt, tA, bA, oA, w', sI, vA, uA, nA, yA) → wY_find_6 post x1 (nI m) (nI r) (nI cnt) tA bA oA w' sI vA uA nA yA (e + 1) (nI i)) := by
  have hc := hX.1
  intro e
  induction e with
  | zero =>
    intro i hi
    have h : nI cnt ≤ nI i := nI_le (by omega) (by omega)
    exact ⟨-1, fun post hp => br_t h hp, fun w' sI vA uA nA yA hQ post hp => br_t h hp⟩
  | succ e ih =>
    intro i hi
    have h : ¬ nI cnt ≤ nI i := nI_ge (by omega) (by omega)
    have h2 : ¬ (256 : Int32) ≤ nI i := nI_ge (b := 256) (by omega) (by decide)
    have hv : vp_in (nI i) 256 := vp_in_nI (by omega) (by decide)
    have ci : (nI i).toNatClampNeg = i := nI_clamp (by omega)
    obtain ⟨hs, es, _⟩ := hX.2 i (by omega)
    by_cases hx : nI (rl_S sA i) = x1
    · refine ⟨nI i, fun post hp => br_f h ⟨hv, ?_⟩, fun w' sI vA uA nA yA hQ post hp => br_f h (br_f h2 ⟨hv, ?_⟩)⟩
      · rw [ci, es]; exact br_t hx hp
      · rw [ci, (hQ i (by omega)).1]; exact br_t hx hp
    · obtain ⟨a, hX2, hY2⟩ := ih (i + 1) (by omega)
      refine ⟨a, fun post hp => br_f h ⟨hv, ?_⟩, fun w' sI vA uA nA yA hQ post hp => br_f h (br_f h2 ⟨hv, ?_⟩)⟩
      · rw [ci, es]; exact br_f hx (nm_r (nI_1 i) (hX2 post hp))
      · rw [ci, (hQ i (by omega)).1]; exact br_f hx (nm_r (nI_1 i) (hY2 w' sI vA uA nA yA hQ post hp))
theorem ql_without (hX : rl_X cnt sA xA) (j : Nat) (hj : j < 8) : ∀ e i (x : Int32), i + e = cnt → ∃ a : Int32, (∀ post : Int32 → Prop, post a → wX_without_14 post (nI j) (nI m) (nI r) (nI t) (nI o) (nI cnt) tA sA xA w p c (e + 1) x (nI i)) ∧
    (∀ (w' : Nat → Int64) (sI : Nat → Int32) (vA : Nat → Int64) (uA nA yA : Nat → Int32), rl_Y cnt t sA xA uA nA yA → ∀ post : Int32 → SY → Prop, post a (nI m, nI r, nI cnt, tA, bA, oA, w', sI, vA, uA, nA, yA) → wY_without_18 post (nI j) (nI m) (nI r) (nI cnt) tA bA oA w' sI vA uA nA yA (e + 1) x (nI i)) := by
  have hc := hX.1
  intro e
  induction e with
  | zero =>
    intro i x hi
    have h : nI cnt ≤ nI i := nI_le (by omega) (by omega)
    exact ⟨x, fun post hp => br_t h hp, fun w' sI vA uA nA yA hQ post hp => br_t h hp⟩
  | succ e ih =>
    intro i x hi
    have h : ¬ nI cnt ≤ nI i := nI_ge (by omega) (by omega)
    have h2 : ¬ (256 : Int32) ≤ nI i := nI_ge (b := 256) (by omega) (by decide)
    have hv : vp_in (nI i) 256 := vp_in_nI (by omega) (by decide)
    have ci : (nI i).toNatClampNeg = i := nI_clamp (by omega)
    obtain ⟨hs, es, _⟩ := hX.2 i (by omega)
    by_cases hb : (rl_S sA i).testBit j = true
    · obtain ⟨a, hX2, hY2⟩ := ih (i + 1) x (by omega)
      refine ⟨a, fun post hp => br_f h ⟨hv, ?_⟩, fun w' sI vA uA nA yA hQ post hp => br_f h (br_f h2 ⟨hv, ?_⟩)⟩
      · rw [ci, es]; exact xw_b1 (by omega) (by omega) hb (br_f (by decide) (nm_r (nI_1 i) (hX2 post hp)))
      · rw [ci, (hQ i (by omega)).1]; exact yw_i1 _ (by omega) (by omega) hb (br_f (by decide) (nm_r (nI_1 i) (hY2 w' sI vA uA nA yA hQ post hp)))
    · obtain ⟨a, hX2, hY2⟩ := ih (i + 1) (x + 1) (by omega)
      refine ⟨a, fun post hp => br_f h ⟨hv, ?_⟩, fun w' sI vA uA nA yA hQ post hp => br_f h (br_f h2 ⟨hv, ?_⟩)⟩
      · rw [ci, es]; exact xw_b0 (by omega) (by omega) hb (br_t rfl (nm_e (nm_r (nI_1 i) (hX2 post hp))))
      · rw [ci, (hQ i (by omega)).1]; exact yw_i0 _ (by omega) (by omega) hb (br_t rfl (nm_e (nm_r (nI_1 i) (hY2 w' sI vA uA nA yA hQ post hp))))
end
theorem i_vc_find {k : Nat} {u : SX} {v : SY} (I : i_Rel k u v) (hk : k + 4 ≤ 2050) (v1 : Int32) : wpX_find (fun r => wpY_find (fun r' v' => r' = r ∧ i_Rel (k + 4) u v') v v1) u v1 := by
  obtain ⟨m, r, t, o, cnt, tA, sA, xA, w, p, c, fc, bA, oA, w', sI, vA, uA, nA, yA, hm, hr, hX, rfl, rfl, hY⟩ := rl_open I
  have hc := hX.1
  unfold wpX_find wpY_find
  obtain ⟨a, h1, h2⟩ := ql_find m r t o cnt tA sA xA w p c bA oA hX v1 cnt 0 (by omega)
  exact ⟨cnt + 1, h1 _ (hY _ (fun w1 s1 a1 u1 n1 y1 hQ hR => ⟨cnt + 1, h2 w1 s1 a1 u1 n1 y1 hQ _ ⟨rfl, hR⟩⟩))⟩
theorem i_vc_without {k : Nat} {u : SX} {v : SY} (I : i_Rel k u v) (hk : k + 4 ≤ 2050) (v1 : Int32) : wpX_without (fun r => wpY_without (fun r' v' => r' = r ∧ i_Rel (k + 4) u v') v v1) u v1 := by
  have I' := I
  obtain ⟨m, r, t, o, cnt, tA, sA, xA, w, p, c, fc, bA, oA, w', sI, vA, uA, nA, yA, hm, hr, hX, rfl, rfl, hY⟩ := rl_open I
  have hc := hX.1
  unfold wpX_without wpY_without
  rcases gd_ix v1 (n := r) (by omega) with h1 | ⟨j, hj, rfl⟩
  · exact gd_J0 h1 (br_t rfl (gd_j0 h1 (br_f (by decide) ⟨rfl, I'⟩)))
  · obtain ⟨a, h1, h2⟩ := ql_without m r t o cnt tA sA xA w p c bA oA hX j (by omega) cnt 0 0 (by omega)
    exact gd_J1 hr hj (br_f (by decide) ⟨cnt + 1, h1 _ (gd_j1 hr hj (br_t rfl (hY _ (fun w1 s1 a1 u1 n1 y1 hQ hR => ⟨cnt + 1, h2 w1 s1 a1 u1 n1 y1 hQ _ ⟨rfl, hR⟩⟩))))⟩)
