/-! the relation; the constructor, the changes, and the questions without a loop -/
def rl_T (tA : Nat → Int32) : Nat → Int := fun i => (tA i).toInt
def rl_R (u : SX) (v : SY) : Prop := ∃ (m r t o : Nat) (tA sA xA w p c : Nat → Int32) (fc : Int32) (bA oA : Nat → Int32) (w' : Nat → Int64) (sI : Nat → Int32) (vA : Nat → Int64) (uA nA yA : Nat → Int32),
  m ≤ 4 ∧ r ≤ 8 ∧ t < 256 ∧ o < 256 ∧ (∀ i, (rl_T tA i).natAbs ≤ 3) ∧ yb_B t bA ∧ yb_B o oA ∧ md_L m r (rl_T tA) t o (2 ^ r) sA xA ∧
  u = (nI m, nI r, nI t, nI o, nI (md_c m r (rl_T tA) t o (2 ^ r)), tA, sA, xA, w, p, c) ∧ v = (nI m, nI r, fc, tA, bA, oA, w', sI, vA, uA, nA, yA)
def i_Rel (k : Nat) (u : SX) (v : SY) : Prop := rl_R u v
theorem i_up {k : Nat} {u : SX} {v : SY} (h : i_Rel k u v) : i_Rel (k + 4) u v := h
theorem rl_A (tA : Nat → Int32) : ∀ i, i < 32 → tA i = zz_i (rl_T tA i) := fun i _ => (zz_ti (tA i)).symm
theorem rl_c0 (k0 k1 : Int32) : ∃ m, m ≤ 4 ∧ (∀ post : Int32 → Prop, post (nI m) → wpX_clamp post k0 1 4) ∧ (∀ post : SY → Prop, wY_init_99 post k1 (nI m) 0 0 0 (fun _ => 0) (fun _ => 0) (fun _ => 0) (fun _ => 0) (fun _ => 0) (fun _ => 0) (fun _ => 0) (fun _ => 0) (fun _ => 0) → wpY_init post k0 k1) := by
  by_cases h1 : 1 ≤ k0
  · by_cases h4 : k0 ≤ 4
    · obtain ⟨j, hj, rfl⟩ := nI_of2 (n := 4) (by decide) (fun z => by
        have a := Int32.le_iff_toInt_le.mp h1
        have b := Int32.lt_iff_toInt_lt.mp z
        have e1 : (1 : Int32).toInt = 1 := by decide
        have e0 : (0 : Int32).toInt = 0 := by decide
        omega) h4
      exact ⟨j, hj, fun post hp => br_t h1 (br_t h4 hp), fun post hp => br_t h1 (br_t h4 hp)⟩
    · exact ⟨4, by omega, fun post hp => br_t h1 (br_f h4 hp), fun post hp => br_t h1 (br_f h4 hp)⟩
  · exact ⟨1, by omega, fun post hp => br_f h1 hp, fun post hp => br_f h1 hp⟩
theorem rl_c1 (k1 : Int32) : ∃ r, r ≤ 8 ∧ (∀ post : Int32 → Prop, post (nI r) → wpX_clamp post k1 2 8) ∧ (∀ (post : SY → Prop) (z0 fm fr fc : Int32) (tA bA oA : Nat → Int32) (w : Nat → Int64) (sI : Nat → Int32) (vA : Nat → Int64) (uA nA yA : Nat → Int32), post (z0, nI r, fc, tA, bA, oA, w, sI, vA, uA, nA, yA) → wY_init_99 post k1 z0 fm fr fc tA bA oA w sI vA uA nA yA) := by
  by_cases h1 : 2 ≤ k1
  · by_cases h4 : k1 ≤ 8
    · obtain ⟨j, hj, rfl⟩ := nI_of2 (n := 8) (by decide) (fun z => by
        have a := Int32.le_iff_toInt_le.mp h1
        have b := Int32.lt_iff_toInt_lt.mp z
        have e1 : (2 : Int32).toInt = 2 := by decide
        have e0 : (0 : Int32).toInt = 0 := by decide
        omega) h4
      exact ⟨j, hj, fun post hp => br_t h1 (br_t h4 hp), fun post z0 fm fr fc tA bA oA w sI vA uA nA yA hp => br_t h1 (br_t h4 hp)⟩
    · exact ⟨8, by omega, fun post hp => br_t h1 (br_f h4 hp), fun post z0 fm fr fc tA bA oA w sI vA uA nA yA hp => br_t h1 (br_f h4 hp)⟩
  · exact ⟨2, by omega, fun post hp => br_f h1 hp, fun post z0 fm fr fc tA bA oA w sI vA uA nA yA hp => br_f h1 hp⟩
theorem i_vc0 (k0 : Int32) (k1 : Int32) : wpX_init (fun u => wpY_init (fun v => i_Rel 2 u v) k0 k1) k0 k1 := by
  obtain ⟨m, hm, hx, hy⟩ := rl_c0 k0 k1
  obtain ⟨r, hr, gx, gy⟩ := rl_c1 k1
  have hT : ∀ i, (rl_T (fun _ => 0) i).natAbs ≤ 3 := fun i => by show ((0 : Int32).toInt).natAbs ≤ 3; decide
  unfold wpX_init
  refine hx _ (gx _ ?_)
  refine xl_list _ 0 (fun _ => 0) (fun _ => 0) (fun _ => 0) (fun _ => 0) (fun _ => 0) (fun _ => 0) m r 0 0 (rl_T (fun _ => 0)) hm hr (by decide) hT (rl_A _) (fun sA xA w p c hL => ?_)
  refine hy _ (gy _ _ _ _ _ _ _ _ _ _ _ _ _ _ ?_)
  exact ⟨m, r, 0, 0, _, sA, xA, w, p, c, 0, _, _, _, _, _, _, _, _, hm, hr, by decide, by decide, hT, fun j hj => by rw [Nat.zero_testBit]; rfl, fun j hj => by rw [Nat.zero_testBit]; rfl, hL, rfl, rfl⟩
/-! the guards -/
theorem gd_S1 {post : Int32 → Prop} {m s : Nat} {fr ft fo fc : Int32} {tA sA xA w p c : Nat → Int32} (hm : m ≤ 4) (hs : s < m) (h : post 1) : wpX_isSubstance post (nI m, fr, ft, fo, fc, tA, sA, xA, w, p, c) (nI s) :=
  br_f (nI_pos (by omega)) (br_f (nI_ge hs (by omega)) h)
theorem gd_S0 {post : Int32 → Prop} {m : Nat} {x fr ft fo fc : Int32} {tA sA xA w p c : Nat → Int32} (hs : x < 0 ∨ nI m ≤ x) (h : post 0) : wpX_isSubstance post (nI m, fr, ft, fo, fc, tA, sA, xA, w, p, c) x := by
  by_cases h0 : x < 0
  · exact br_t h0 h
  · exact br_f h0 (br_t (hs.resolve_left h0) h)
theorem gd_J1 {post : Int32 → Prop} {r s : Nat} {fm ft fo fc : Int32} {tA sA xA w p c : Nat → Int32} (hr : r ≤ 8) (hs : s < r) (h : post 1) : wpX_isReaction post (fm, nI r, ft, fo, fc, tA, sA, xA, w, p, c) (nI s) :=
  br_f (nI_pos (by omega)) (br_f (nI_ge hs (by omega)) h)
theorem gd_J0 {post : Int32 → Prop} {r : Nat} {x fm ft fo fc : Int32} {tA sA xA w p c : Nat → Int32} (hs : x < 0 ∨ nI r ≤ x) (h : post 0) : wpX_isReaction post (fm, nI r, ft, fo, fc, tA, sA, xA, w, p, c) x := by
  by_cases h0 : x < 0
  · exact br_t h0 h
  · exact br_f h0 (br_t (hs.resolve_left h0) h)
theorem gd_M1 {post : Int32 → Prop} {n s : Nat} {fm fr ft fo : Int32} {tA sA xA w p c : Nat → Int32} (hn : n < 256) (hs : s < n) (h : post 1) : wpX_isMode post (fm, fr, ft, fo, nI n, tA, sA, xA, w, p, c) (nI s) :=
  br_f (nI_pos (by omega)) (br_f (nI_ge hs (by omega)) h)
theorem gd_M0 {post : Int32 → Prop} {n : Nat} {x fm fr ft fo : Int32} {tA sA xA w p c : Nat → Int32} (hs : x < 0 ∨ nI n ≤ x) (h : post 0) : wpX_isMode post (fm, fr, ft, fo, nI n, tA, sA, xA, w, p, c) x := by
  by_cases h0 : x < 0
  · exact br_t h0 h
  · exact br_f h0 (br_t (hs.resolve_left h0) h)
theorem gd_s1 {post : Int32 → Prop} {m s : Nat} {fr fc : Int32} {tA bA oA : Nat → Int32} {w : Nat → Int64} {sI : Nat → Int32} {vA : Nat → Int64} {uA nA yA : Nat → Int32} (hm : m ≤ 4) (hs : s < m) (h : post 0) : wpY_badSubstance post (nI m, fr, fc, tA, bA, oA, w, sI, vA, uA, nA, yA) (nI s) :=
  br_f (nI_pos (by omega)) (br_f (nI_ge hs (by omega)) (br_t (nI_lt (b := 4) (by omega) (by decide)) h))
theorem gd_s0 {post : Int32 → Prop} {m : Nat} {x fr fc : Int32} {tA bA oA : Nat → Int32} {w : Nat → Int64} {sI : Nat → Int32} {vA : Nat → Int64} {uA nA yA : Nat → Int32} (hs : x < 0 ∨ nI m ≤ x) (h : post 1) : wpY_badSubstance post (nI m, fr, fc, tA, bA, oA, w, sI, vA, uA, nA, yA) x := by
  by_cases h0 : x < 0
  · exact br_t h0 h
  · exact br_f h0 (br_t (hs.resolve_left h0) h)
theorem gd_j1 {post : Int32 → Prop} {r s : Nat} {fm fc : Int32} {tA bA oA : Nat → Int32} {w : Nat → Int64} {sI : Nat → Int32} {vA : Nat → Int64} {uA nA yA : Nat → Int32} (hr : r ≤ 8) (hs : s < r) (h : post 0) : wpY_badReaction post (fm, nI r, fc, tA, bA, oA, w, sI, vA, uA, nA, yA) (nI s) :=
  br_f (nI_pos (by omega)) (br_f (nI_ge hs (by omega)) (br_t (nI_lt (b := 8) (by omega) (by decide)) h))
theorem gd_j0 {post : Int32 → Prop} {r : Nat} {x fm fc : Int32} {tA bA oA : Nat → Int32} {w : Nat → Int64} {sI : Nat → Int32} {vA : Nat → Int64} {uA nA yA : Nat → Int32} (hs : x < 0 ∨ nI r ≤ x) (h : post 1) : wpY_badReaction post (fm, nI r, fc, tA, bA, oA, w, sI, vA, uA, nA, yA) x := by
  by_cases h0 : x < 0
  · exact br_t h0 h
  · exact br_f h0 (br_t (hs.resolve_left h0) h)
theorem gd_ix (x : Int32) {n : Nat} (hn : n < 2 ^ 31) : (x < 0 ∨ nI n ≤ x) ∨ ∃ j : Nat, j < n ∧ x = nI j := by
  rcases pk_ix x hn with h | h | h
  · exact Or.inl (Or.inl h)
  · exact Or.inl (Or.inr h)
  · exact Or.inr h
theorem i_vc_set {k : Nat} {u : SX} {v : SY} (I : i_Rel k u v) (hk : k + 4 ≤ 2050) (v1 : Int32) (v2 : Int32) (v3 : Int32) : wpX_set (fun r u' => wpY_set (fun r' v' => r' = r ∧ i_Rel (k + 4) u' v') v v1 v2 v3) u v1 v2 v3 := by
  have I' := I
  obtain ⟨m, r, t, o, tA, sA, xA, w, p, c, fc, bA, oA, w', sI, vA, uA, nA, yA, hm, hr, ht, ho, hT, hB, hO, hL, rfl, rfl⟩ := I
  unfold wpX_set wpY_set
  rcases gd_ix v1 (n := m) (by omega) with h1 | ⟨s, hs, rfl⟩
  · exact gd_S0 h1 (br_t rfl (gd_s0 h1 (br_f (by decide) ⟨rfl, I'⟩)))
  · refine gd_S1 hm hs (br_f (by decide) ?_)
    rcases gd_ix v2 (n := r) (by omega) with h2 | ⟨j, hj, rfl⟩
    · exact gd_J0 h2 (br_t rfl (gd_s1 hm hs (br_t rfl (gd_j0 h2 (br_f (by decide) ⟨rfl, I'⟩)))))
    · refine gd_J1 hr hj (br_f (by decide) ?_)
      by_cases h3 : v3 < -3
      · exact br_t h3 (gd_s1 hm hs (br_t rfl (gd_j1 hr hj (br_t rfl (br_t h3 ⟨rfl, I'⟩)))))
      · refine br_f h3 ?_
        by_cases h4 : v3 ≤ 3
        · have v1 : vp_in (nI s * 8 + nI j) 32 := by rw [zz_x]; exact vp_in_nI (by omega) (by decide)
          have v2 : vp_in (8 * nI s + nI j) 32 := by rw [zz_y]; exact vp_in_nI (by omega) (by decide)
          have hT' : ∀ i, (rl_T (upd tA (8 * s + j) v3) i).natAbs ≤ 3 := by
            intro i
            show ((upd tA (8 * s + j) v3 i).toInt).natAbs ≤ 3
            by_cases hi : i = 8 * s + j
            · rw [hi, pk_us]
              have a := Int32.le_iff_toInt_le.mp h4
              have b := fun z => h3 (Int32.lt_iff_toInt_lt.mpr z)
              have e1 : (3 : Int32).toInt = 3 := by decide
              have e2 : (-3 : Int32).toInt = -3 := by decide
              rw [e1] at a
              rw [e2] at b
              have b' : ¬ v3.toInt < -3 := b
              omega
            · rw [pk_un hi]; exact hT i
          refine br_t h4 ⟨v1, nm_r (e' := upd tA (8 * s + j) v3) (by rw [zz_x, nI_clamp (by omega)]) ?_⟩
          refine xl_list _ _ (upd tA (8 * s + j) v3) sA xA w p c m r t o (rl_T (upd tA (8 * s + j) v3)) hm hr ho hT' (rl_A _) (fun sA' xA' w1 p1 c1 hL' => ?_)
          refine gd_s1 hm hs (br_t rfl (gd_j1 hr hj (br_t rfl (br_f h3 (br_t h4 ⟨v2, nm_r (e' := upd tA (8 * s + j) v3) (by rw [zz_y, nI_clamp (by omega)]) ⟨rfl, ?_⟩⟩)))))
          exact ⟨m, r, t, o, _, sA', xA', w1, p1, c1, fc, bA, oA, w', sI, vA, uA, nA, yA, hm, hr, ht, ho, hT', hB, hO, hL', rfl, rfl⟩
        · exact br_f h4 (gd_s1 hm hs (br_t rfl (gd_j1 hr hj (br_t rfl (br_f h3 (br_f h4 ⟨rfl, I'⟩))))))
theorem i_vc_get {k : Nat} {u : SX} {v : SY} (I : i_Rel k u v) (hk : k + 4 ≤ 2050) (v1 : Int32) (v2 : Int32) : wpX_get (fun r => wpY_get (fun r' => r' = r ∧ i_Rel (k + 4) u v) v v1 v2) u v1 v2 := by
  have I' := I
  obtain ⟨m, r, t, o, tA, sA, xA, w, p, c, fc, bA, oA, w', sI, vA, uA, nA, yA, hm, hr, ht, ho, hT, hB, hO, hL, rfl, rfl⟩ := I
  unfold wpX_get wpY_get
  rcases gd_ix v1 (n := m) (by omega) with h1 | ⟨s, hs, rfl⟩
  · exact gd_S0 h1 (br_t rfl (gd_s0 h1 (br_f (by decide) ⟨rfl, I'⟩)))
  · refine gd_S1 hm hs (br_f (by decide) ?_)
    rcases gd_ix v2 (n := r) (by omega) with h2 | ⟨j, hj, rfl⟩
    · exact gd_J0 h2 (br_t rfl (gd_s1 hm hs (br_t rfl (gd_j0 h2 (br_f (by decide) ⟨rfl, I'⟩)))))
    · have v1 : vp_in (nI s * 8 + nI j) 32 := by rw [zz_x]; exact vp_in_nI (by omega) (by decide)
      have v2 : vp_in (8 * nI s + nI j) 32 := by rw [zz_y]; exact vp_in_nI (by omega) (by decide)
      exact gd_J1 hr hj (br_f (by decide) ⟨v1, gd_s1 hm hs (br_t rfl (gd_j1 hr hj (br_t rfl ⟨v2, by rw [zz_x, zz_y], I'⟩)))⟩)
theorem rl_on {t j : Nat} {bA : Nat → Int32} (ht : t < 256) (hj : j < 8) (h : yb_B t bA) : t ||| 2 ^ j < 256 ∧ yb_B (t ||| 2 ^ j) (upd bA j 1) := by
  refine ⟨Nat.or_lt_two_pow (n := 8) ht (Nat.pow_lt_pow_right (by decide) hj), fun i hi => ?_⟩
  rw [Nat.testBit_or, Nat.testBit_two_pow]
  by_cases hij : i = j
  · rw [hij, pk_us, decide_eq_true rfl, Bool.or_true]; rfl
  · rw [pk_un hij, decide_eq_false (fun z => hij z.symm), Bool.or_false]; exact h i hi
theorem rl_off {t j : Nat} {bA : Nat → Int32} (ht : t < 256) (hj : j < 8) (h : yb_B t bA) : sg_one t (2 ^ j) < 256 ∧ yb_B (sg_one t (2 ^ j)) (upd bA j 0) := by
  refine ⟨Nat.lt_of_le_of_lt sg_ole ht, fun i hi => ?_⟩
  rw [sg_ob (by omega), Nat.testBit_two_pow]
  by_cases hij : i = j
  · rw [hij, pk_us, decide_eq_true rfl, Bool.not_true, Bool.and_false]; rfl
  · rw [pk_un hij, decide_eq_false (fun z => hij z.symm), Bool.not_false, Bool.and_true]; exact h i hi
theorem rl_wb1 {post : Int32 → Prop} {t j : Nat} (hj : j < 8) (hp : post (nI (t ||| 2 ^ j))) : wpX_withBit post (nI t) (nI j) 1 := by
  refine br_f (by decide) ?_
  rw [zz_sh (by omega), nx_or]; exact hp
theorem rl_wb0 {post : Int32 → Prop} {t j : Nat} (hj : j < 8) (hp : post (nI (sg_one t (2 ^ j)))) : wpX_withBit post (nI t) (nI j) 0 := by
  refine br_t rfl ?_
  rw [zz_sh (by omega), sg_o32]; exact hp
theorem i_vc_twoWay {k : Nat} {u : SX} {v : SY} (I : i_Rel k u v) (hk : k + 4 ≤ 2050) (v1 : Int32) (v2 : Int32) : wpX_twoWay (fun r u' => wpY_twoWay (fun r' v' => r' = r ∧ i_Rel (k + 4) u' v') v v1 v2) u v1 v2 := by
  have I' := I
  obtain ⟨m, r, t, o, tA, sA, xA, w, p, c, fc, bA, oA, w', sI, vA, uA, nA, yA, hm, hr, ht, ho, hT, hB, hO, hL, rfl, rfl⟩ := I
  unfold wpX_twoWay wpY_twoWay
  rcases gd_ix v1 (n := r) (by omega) with h1 | ⟨j, hj, rfl⟩
  · exact gd_J0 h1 (br_t rfl (gd_j0 h1 (br_f (by decide) ⟨rfl, I'⟩)))
  · refine gd_J1 hr hj (br_f (by decide) ?_)
    have vj : vp_in (nI j) 8 := vp_in_nI (by omega) (by decide)
    have cj : (nI j).toNatClampNeg = j := nI_clamp (by omega)
    have hX : ∀ (post : Int32 → SX → Prop) (b : Int32), (v2 = 0 → ∀ sA xA w p c : Nat → Int32, md_L m r (rl_T tA) (sg_one t (2 ^ j)) o (2 ^ r) sA xA → post b (nI m, nI r, nI (sg_one t (2 ^ j)), nI o, nI (md_c m r (rl_T tA) (sg_one t (2 ^ j)) o (2 ^ r)), tA, sA, xA, w, p, c)) → (¬ v2 = 0 → ∀ sA xA w p c : Nat → Int32, md_L m r (rl_T tA) (t ||| 2 ^ j) o (2 ^ r) sA xA → post b (nI m, nI r, nI (t ||| 2 ^ j), nI o, nI (md_c m r (rl_T tA) (t ||| 2 ^ j) o (2 ^ r)), tA, sA, xA, w, p, c)) →
        (v2 = 0 → wX_twoWay_34 post b 0 (nI j) (nI t) (nI m) (nI r) (nI t) (nI o) (nI (md_c m r (rl_T tA) t o (2 ^ r))) tA sA xA w p c) ∧ (¬ v2 = 0 → wX_twoWay_34 post b 1 (nI j) (nI t) (nI m) (nI r) (nI t) (nI o) (nI (md_c m r (rl_T tA) t o (2 ^ r))) tA sA xA w p c) := by
      intro post b h0 h1
      exact ⟨fun z => rl_wb0 (by omega) (xl_list _ _ tA sA xA w p c m r _ o (rl_T tA) hm hr ho hT (rl_A _) (h0 z)), fun z => rl_wb1 (by omega) (xl_list _ _ tA sA xA w p c m r _ o (rl_T tA) hm hr ho hT (rl_A _) (h1 z))⟩
    have b1 := rl_on ht (show j < 8 by omega) hB
    have b0 := rl_off ht (show j < 8 by omega) hB
    cases hb : t.testBit j
    · refine xw_b0 (by omega) (by omega) (by rw [hb]; decide) (hX _ _ (fun z sA' xA' w1 p1 c1 hL' => ?_) (fun z sA' xA' w1 p1 c1 hL' => ?_))
      · refine gd_j1 hr hj (br_t rfl ⟨vj, ?_⟩)
        rw [cj]
        refine br_t (yb_0 hB (by omega) hb) (br_t z ⟨vj, nm_r (e' := upd bA j 0) (by rw [cj, zz_nb0]) ⟨rfl, ?_⟩⟩)
        exact ⟨m, r, _, o, tA, sA', xA', w1, p1, c1, fc, _, oA, w', sI, vA, uA, nA, yA, hm, hr, b0.1, ho, hT, b0.2, hO, hL', rfl, rfl⟩
      · refine gd_j1 hr hj (br_t rfl ⟨vj, ?_⟩)
        rw [cj]
        refine br_t (yb_0 hB (by omega) hb) (br_f z ⟨vj, nm_r (e' := upd bA j 1) (by rw [cj, zz_nb1]) ⟨rfl, ?_⟩⟩)
        exact ⟨m, r, _, o, tA, sA', xA', w1, p1, c1, fc, _, oA, w', sI, vA, uA, nA, yA, hm, hr, b1.1, ho, hT, b1.2, hO, hL', rfl, rfl⟩
    · refine xw_b1 (by omega) (by omega) hb (hX _ _ (fun z sA' xA' w1 p1 c1 hL' => ?_) (fun z sA' xA' w1 p1 c1 hL' => ?_))
      · refine gd_j1 hr hj (br_t rfl ⟨vj, ?_⟩)
        rw [cj]
        refine br_f (yb_1 hB (by omega) hb) (br_t z ⟨vj, nm_r (e' := upd bA j 0) (by rw [cj, zz_nb0]) ⟨rfl, ?_⟩⟩)
        exact ⟨m, r, _, o, tA, sA', xA', w1, p1, c1, fc, _, oA, w', sI, vA, uA, nA, yA, hm, hr, b0.1, ho, hT, b0.2, hO, hL', rfl, rfl⟩
      · refine gd_j1 hr hj (br_t rfl ⟨vj, ?_⟩)
        rw [cj]
        refine br_f (yb_1 hB (by omega) hb) (br_f z ⟨vj, nm_r (e' := upd bA j 1) (by rw [cj, zz_nb1]) ⟨rfl, ?_⟩⟩)
        exact ⟨m, r, _, o, tA, sA', xA', w1, p1, c1, fc, _, oA, w', sI, vA, uA, nA, yA, hm, hr, b1.1, ho, hT, b1.2, hO, hL', rfl, rfl⟩
theorem i_vc_turn {k : Nat} {u : SX} {v : SY} (I : i_Rel k u v) (hk : k + 4 ≤ 2050) (v1 : Int32) (v2 : Int32) : wpX_turn (fun r u' => wpY_turn (fun r' v' => r' = r ∧ i_Rel (k + 4) u' v') v v1 v2) u v1 v2 := by
  have I' := I
  obtain ⟨m, r, t, o, tA, sA, xA, w, p, c, fc, bA, oA, w', sI, vA, uA, nA, yA, hm, hr, ht, ho, hT, hB, hO, hL, rfl, rfl⟩ := I
  unfold wpX_turn wpY_turn
  rcases gd_ix v1 (n := r) (by omega) with h1 | ⟨j, hj, rfl⟩
  · exact gd_J0 h1 (br_t rfl (gd_j0 h1 (br_f (by decide) ⟨rfl, I'⟩)))
  · refine gd_J1 hr hj (br_f (by decide) ?_)
    have vj : vp_in (nI j) 8 := vp_in_nI (by omega) (by decide)
    have cj : (nI j).toNatClampNeg = j := nI_clamp (by omega)
    have b1 := rl_on ho (show j < 8 by omega) hO
    have b0 := rl_off ho (show j < 8 by omega) hO
    have hX : ∀ (post : Int32 → SX → Prop) (b : Int32), (v2 = 0 → ∀ sA xA w p c : Nat → Int32, md_L m r (rl_T tA) t (o ||| 2 ^ j) (2 ^ r) sA xA → post b (nI m, nI r, nI t, nI (o ||| 2 ^ j), nI (md_c m r (rl_T tA) t (o ||| 2 ^ j) (2 ^ r)), tA, sA, xA, w, p, c)) → (¬ v2 = 0 → ∀ sA xA w p c : Nat → Int32, md_L m r (rl_T tA) t (sg_one o (2 ^ j)) (2 ^ r) sA xA → post b (nI m, nI r, nI t, nI (sg_one o (2 ^ j)), nI (md_c m r (rl_T tA) t (sg_one o (2 ^ j)) (2 ^ r)), tA, sA, xA, w, p, c)) →
        (v2 = 0 → wX_turn_36 post b 1 (nI j) (nI o) (nI m) (nI r) (nI t) (nI o) (nI (md_c m r (rl_T tA) t o (2 ^ r))) tA sA xA w p c) ∧ (¬ v2 = 0 → wX_turn_36 post b 0 (nI j) (nI o) (nI m) (nI r) (nI t) (nI o) (nI (md_c m r (rl_T tA) t o (2 ^ r))) tA sA xA w p c) := by
      intro post b h0 h1
      exact ⟨fun z => rl_wb1 (by omega) (xl_list _ _ tA sA xA w p c m r t _ (rl_T tA) hm hr b1.1 hT (rl_A _) (h0 z)), fun z => rl_wb0 (by omega) (xl_list _ _ tA sA xA w p c m r t _ (rl_T tA) hm hr b0.1 hT (rl_A _) (h1 z))⟩
    cases hb : o.testBit j
    · refine xw_b0 (by omega) (by omega) (by rw [hb]; decide) (nm_r (e' := 1) (by decide) (hX _ _ (fun z sA' xA' w1 p1 c1 hL' => ?_) (fun z sA' xA' w1 p1 c1 hL' => ?_)))
      · refine gd_j1 hr hj (br_t rfl ⟨vj, ?_⟩)
        rw [cj]
        refine br_t (yb_0 hO (by omega) hb) (br_t z ⟨vj, nm_r (e' := upd oA j 1) (by rw [cj, zz_nb1]) ⟨rfl, ?_⟩⟩)
        exact ⟨m, r, t, _, tA, sA', xA', w1, p1, c1, fc, bA, _, w', sI, vA, uA, nA, yA, hm, hr, ht, b1.1, hT, hB, b1.2, hL', rfl, rfl⟩
      · refine gd_j1 hr hj (br_t rfl ⟨vj, ?_⟩)
        rw [cj]
        refine br_t (yb_0 hO (by omega) hb) (br_f z ⟨vj, nm_r (e' := upd oA j 0) (by rw [cj, zz_nb0]) ⟨rfl, ?_⟩⟩)
        exact ⟨m, r, t, _, tA, sA', xA', w1, p1, c1, fc, bA, _, w', sI, vA, uA, nA, yA, hm, hr, ht, b0.1, hT, hB, b0.2, hL', rfl, rfl⟩
    · refine xw_b1 (by omega) (by omega) hb (nm_r (e' := 0) (by decide) (hX _ _ (fun z sA' xA' w1 p1 c1 hL' => ?_) (fun z sA' xA' w1 p1 c1 hL' => ?_)))
      · refine gd_j1 hr hj (br_t rfl ⟨vj, ?_⟩)
        rw [cj]
        refine br_f (yb_1 hO (by omega) hb) (br_t z ⟨vj, nm_r (e' := upd oA j 1) (by rw [cj, zz_nb1]) ⟨rfl, ?_⟩⟩)
        exact ⟨m, r, t, _, tA, sA', xA', w1, p1, c1, fc, bA, _, w', sI, vA, uA, nA, yA, hm, hr, ht, b1.1, hT, hB, b1.2, hL', rfl, rfl⟩
      · refine gd_j1 hr hj (br_t rfl ⟨vj, ?_⟩)
        rw [cj]
        refine br_f (yb_1 hO (by omega) hb) (br_f z ⟨vj, nm_r (e' := upd oA j 0) (by rw [cj, zz_nb0]) ⟨rfl, ?_⟩⟩)
        exact ⟨m, r, t, _, tA, sA', xA', w1, p1, c1, fc, bA, _, w', sI, vA, uA, nA, yA, hm, hr, ht, b0.1, hT, hB, b0.2, hL', rfl, rfl⟩
