/-! the reference's look at one set, and its list -/
section
variable (fm fr : Int32) (tA bA oA : Nat → Int32) (w : Nat → Int64) (sI : Nat → Int32) (vA : Nat → Int64) (uA nA xA : Nat → Int32)
theorem yl_177 (post : SY → Prop) (x5 : Int32) (cnt : Nat) (V : Nat → Int) (sg : Int) (hx5 : x5 = zz_i sg) (hsg : sg.natAbs ≤ 1) (hcnt : cnt < 256) (hv : ∀ j, j < 8 → vA j = zz_l (V j))
    (hp : ∀ x : Nat → Int32, (∀ i, i < 8 * cnt → x i = xA i) → (∀ j, j < 8 → x (8 * cnt + j) = zz_i (V j * sg)) → post (fm, fr, nI (cnt + 1), tA, bA, oA, w, sI, vA, uA, nA, x)) :
    ∃ n, wY_look_177 post x5 fm fr (nI cnt) n 0 tA bA oA w sI vA uA nA xA := by
  subst hx5
  have H : ∀ (e i n : Nat) (x : Nat → Int32), i + e = 8 → e < n → (∀ q, q < 8 * cnt → x q = xA q) → (∀ j, j < i → x (8 * cnt + j) = zz_i (V j * sg)) → wY_look_177 post (zz_i sg) fm fr (nI cnt) n (nI i) tA bA oA w sI vA uA nA x := by
    intro e
    induction e with
    | zero =>
      intro i n x hi hn h1 h2
      obtain ⟨n, rfl⟩ : ∃ k, n = k + 1 := ⟨n - 1, by omega⟩
      rw [wY_look_177]
      exact pk_le 8 i (fun _ => nm_r (nI_1 cnt) (hp x h1 (fun j hj => h2 j (by omega)))) (fun h => by omega)
    | succ e ih =>
      intro i n x hi hn h1 h2
      obtain ⟨n, rfl⟩ : ∃ k, n = k + 1 := ⟨n - 1, by omega⟩
      rw [wY_look_177]
      have c1 : (8 * nI cnt + nI i).toNatClampNeg = 8 * cnt + i := by rw [zz_y, nI_clamp (by omega)]
      have v1 : vp_in (8 * nI cnt + nI i) 2048 := by rw [zz_y]; exact vp_in_nI (by omega) (by decide)
      refine pk_le 8 i (fun h => by omega) (fun h => ⟨vp_in_nI h (by decide), v1, nm_r (e' := upd x (8 * cnt + i) (zz_i (V i * sg))) (by rw [c1, nI_clamp (by omega), hv i h, zz_il (by omega), zz_lmul, zz_li]) (nm_r (nI_1 i) (ih (i + 1) n _ (by omega) (by omega) (fun q hq => ?_) (fun j hj => ?_)))⟩)
      · rw [pk_un (by omega)]; exact h1 q hq
      · by_cases hji : j = i
        · rw [hji, pk_us]
        · rw [pk_un (by omega)]; exact h2 j (by omega)
  exact ⟨9, H 8 0 9 xA rfl (by decide) (fun q hq => rfl) (fun j hj => absurd hj (Nat.not_lt_zero _))⟩
theorem yl_130 (post : SY → Prop) (S x3 x4 x5 : Int32) (cnt : Nat) (V : Nat → Int) (sg : Int) (hx5 : x5 = zz_i sg) (hsg : sg.natAbs ≤ 1) (hcnt : cnt < 256) (hv : ∀ j, j < 8 → vA j = zz_l (V j))
    (hp : ∀ (x : Nat → Int32) (tv : Int32), (∀ i, i < 8 * cnt → x i = xA i) → (∀ j, j < 8 → x (8 * cnt + j) = zz_i (V j * sg)) → (tv = 0 ↔ ¬ (x3 ≠ 0 ∧ x4 ≠ 0)) → post (fm, fr, nI (cnt + 1), tA, bA, oA, w, sI, vA, upd uA cnt S, upd nA cnt tv, x)) :
    wY_look_130 post S x3 x4 x5 fm fr (nI cnt) tA bA oA w sI vA uA nA xA := by
  have vc : vp_in (nI cnt) 256 := vp_in_nI hcnt (by decide)
  refine br_t (nI_lt (b := 256) hcnt (by decide)) ⟨vc, nm_r (e' := upd uA cnt S) (by rw [nI_clamp (by omega)]) ?_⟩
  by_cases h3 : x3 = 0
  · refine br_t h3 ⟨vc, nm_r (e' := upd nA cnt 0) (by rw [nI_clamp (by omega), zz_nb0]) ?_⟩
    exact yl_177 fm fr tA bA oA w sI vA _ _ xA post x5 cnt V sg hx5 hsg hcnt hv (fun x h1 h2 => hp x 0 h1 h2 ⟨fun _ z => z.1 h3, fun _ => rfl⟩)
  · refine br_f h3 ?_
    by_cases h4 : x4 = 0
    · refine br_t h4 ⟨vc, nm_r (e' := upd nA cnt 0) (by rw [nI_clamp (by omega), zz_nb0]) ?_⟩
      exact yl_177 fm fr tA bA oA w sI vA _ _ xA post x5 cnt V sg hx5 hsg hcnt hv (fun x h1 h2 => hp x 0 h1 h2 ⟨fun _ z => z.2 h4, fun _ => rfl⟩)
    · refine br_f h4 ⟨vc, nm_r (e' := upd nA cnt 1) (by rw [nI_clamp (by omega), zz_nb1]) ?_⟩
      exact yl_177 fm fr tA bA oA w sI vA _ _ xA post x5 cnt V sg hx5 hsg hcnt hv (fun x h1 h2 => hp x 1 h1 h2 ⟨fun z => absurd z (by decide), fun z => absurd ⟨h3, h4⟩ z⟩)
theorem yl_98 (post : SY → Prop) (x3 x4 : Int32) (S t cnt : Nat) (V : Nat → Int) (hS : S < 256) (h0 : 0 < S) (hcnt : cnt < 256) (hv : ∀ j, j < 8 → vA j = zz_l (V j)) (hVb : ∀ j, j < 8 → (V j).natAbs ≤ 1944) (hnz : ∀ j, j < 8 → S.testBit j = true → V j ≠ 0) (hz : ∀ j, j < 8 → ¬ S.testBit j = true → V j = 0)
    (hx3 : x3 = 0 ↔ ¬ sg_A S t V) (hx4 : x4 = 0 ↔ ¬ sg_B S t V) (hor : sg_A S t V ∨ sg_B S t V)
    (hp : ∀ (x : Nat → Int32) (tv : Int32), (∀ i, i < 8 * cnt → x i = xA i) → (∀ j, j < 8 → x (8 * cnt + j) = zz_i (V j * sg_s S t V)) → (tv = 0 ↔ sg_one S t ≠ 0) → post (fm, fr, nI (cnt + 1), tA, bA, oA, w, sI, vA, upd uA cnt (nI S), upd nA cnt tv, x)) :
    wY_look_98 post (nI S) x3 x4 fm fr (nI cnt) tA bA oA w sI vA uA nA xA := by
  have hab := sg_AB (t := t) hS hnz
  have hbb : (x3 ≠ 0 ∧ x4 ≠ 0) ↔ sg_one S t = 0 := by
    rw [← hab]
    constructor
    · intro h
      exact ⟨Classical.byContradiction (fun z => h.1 (hx3.mpr z)), Classical.byContradiction (fun z => h.2 (hx4.mpr z))⟩
    · intro h
      exact ⟨fun z => hx3.mp z h.1, fun z => hx4.mp z h.2⟩
  have hgo : ∀ (x5 : Int32) (sg : Int), x5 = zz_i sg → sg = sg_s S t V → wY_look_130 post (nI S) x3 x4 x5 fm fr (nI cnt) tA bA oA w sI vA uA nA xA := by
    intro x5 sg h5 hs
    have hr := sg_r S t V
    refine yl_130 fm fr tA bA oA w sI vA uA nA xA post (nI S) x3 x4 x5 cnt V sg h5 (by omega) hcnt hv (fun x tv h1 h2 h3 => hp x tv h1 (by rw [← hs]; exact h2) ?_)
    rw [h3, hbb]
  by_cases a : sg_A S t V
  · have n3 : ¬ x3 = 0 := fun z => hx3.mp z a
    refine br_f n3 (br_f n3 ?_)
    by_cases b : sg_B S t V
    · have n4 : ¬ x4 = 0 := fun z => hx4.mp z b
      have hl := sg_l2 S hS h0
      have hlb := hVb _ hl.2
      refine br_f n4 (yl_first fr (nI cnt) tA bA oA w sI vA uA nA xA _ fm (sg_lb S) V hl.2 hv hVb (hnz _ hl.2 hl.1) (fun i hi => hz i (by omega) (by rw [sg_l3 S hS i (by omega) hi]; decide)) ?_)
      have hs := sg_1 a b
      by_cases hn : V (sg_lb S) < 0
      · rw [if_pos hn] at hs
        exact br_f (fun z => by have := (zz_l0le (by omega)).mp z; omega) (hgo _ (-1) rfl hs.symm)
      · rw [if_neg hn] at hs
        exact br_t ((zz_l0le (by omega)).mpr (by omega)) (hgo _ 1 rfl hs.symm)
    · exact br_t (hx4.mpr b) (hgo _ 1 rfl (sg_2 a b).symm)
  · have b : sg_B S t V := hor.resolve_left a
    have e3 : x3 = 0 := hx3.mpr a
    exact br_t e3 (br_t e3 (hgo _ (-1) rfl (sg_3 a b).symm))
end
theorem yl_look (post : SY → Prop) (tA bA oA : Nat → Int32) (w : Nat → Int64) (sI : Nat → Int32) (vA : Nat → Int64) (uA nA xA : Nat → Int32) (m r t o S cnt : Nat) (T : Nat → Int) (hm : m ≤ 4) (hr : r ≤ 8) (hS : S < 256) (h0 : 0 < S) (hcnt : cnt < 256) (hT : ∀ i, (T i).natAbs ≤ 3) (hA : ∀ i, i < 32 → tA i = zz_i (T i)) (hB : yb_B t bA) (hO : yb_B o oA)
    (hg : md_g m r T t o S → ∀ (w : Nat → Int64) (sI : Nat → Int32) (vA : Nat → Int64) (x : Nat → Int32) (tv : Int32), (∀ i, i < 8 * cnt → x i = xA i) → (∀ j, j < 8 → x (8 * cnt + j) = zz_i (md_x m S T t j)) → (tv = 0 ↔ sg_one S t ≠ 0) → post (nI m, nI r, nI (cnt + 1), tA, bA, oA, w, sI, vA, upd uA cnt (nI S), upd nA cnt tv, x))
    (hn : ¬ md_g m r T t o S → ∀ (w : Nat → Int64) (sI : Nat → Int32) (vA : Nat → Int64), post (nI m, nI r, nI cnt, tA, bA, oA, w, sI, vA, uA, nA, xA)) :
    wpY_look post (nI m, nI r, nI cnt, tA, bA, oA, w, sI, vA, uA, nA, xA) (nI S) := by
  have H : ∀ (e j n : Nat), j + e = 8 → e < n → (∀ i, i < j → S.testBit i = true → i < r ∧ o.testBit i = false) → wY_look_2 post (nI S) (nI m) (nI r) (nI cnt) tA bA oA w sI vA uA nA xA n (nI j) := by
    intro e
    induction e with
    | zero =>
      intro j n hj hn2 hi
      obtain ⟨n, rfl⟩ : ∃ k, n = k + 1 := ⟨n - 1, by omega⟩
      have hj8 : j = 8 := by omega
      subst hj8
      have hSr : S < 2 ^ r := by
        apply Nat.lt_pow_two_of_testBit
        intro i hi2
        cases hb : S.testBit i
        · rfl
        · by_cases hi8 : i < 8
          · have := (hi i hi8 hb).1; omega
          · rw [zz_hib hS (by omega)] at hb; exact absurd hb (by decide)
      have hSo : S &&& o = 0 := by
        apply Nat.eq_of_testBit_eq
        intro i
        rw [Nat.testBit_and, Nat.zero_testBit]
        cases hb : S.testBit i
        · rfl
        · by_cases hi8 : i < 8
          · rw [(hi i hi8 hb).2]; rfl
          · rw [zz_hib hS (by omega)] at hb; exact absurd hb (by decide)
      rw [wY_look_2]
      refine pk_le 8 8 (fun _ => yl_num _ _ S hS ?_) (fun h => by omega)
      have hcn := es_cnt (m := m) (S := S) (T := T) 8
      have hkm := (es_bd hm (es_Ir (S := S) hm hT 8 (Nat.le_refl _))).2.2
      have hnb := es_nb S 8
      rw [nI_1]
      refine pk_le (es_n S 8) (m + 1) (fun _ => ?_) (fun h => hn (fun z => by have := z.2.2.2.1.1; omega) w sI vA)
      refine yl_solve (nI r) (nI cnt) tA bA oA sI vA uA nA xA _ w m S T hm hS hT hA (fun ho w1 s1 Y hw1 hR hs1 => ?_) (fun ho w1 s1 => br_f (by decide) (hn (fun z => ho z.2.2.2.1.1) w1 s1 vA))
      have hf := es_of (m := m) (S := S) (T := T) 8 (by omega)
      refine br_t (nI_pos' (by omega)) ?_
      refine yl_dir (nI r) (nI cnt) tA bA oA w1 s1 uA nA xA _ vA (nI S) m S T Y hm hT ho hw1 hR hs1 (fun v1 V hv1 hV1 hpr hVb => ?_)
      have hzz : ∀ j, j < 8 → (es_v m S T j = 0 ↔ V j = 0) := by
        intro j hj
        obtain ⟨α, β, hα, hβ, hh⟩ := hpr
        have e := hh j hj
        constructor
        · intro z; rw [z, Int.mul_zero] at e; exact (Int.mul_eq_zero.mp e.symm).resolve_left hβ
        · intro z; rw [z, Int.mul_zero] at e; exact (Int.mul_eq_zero.mp e).resolve_left hα
      by_cases hnz : ∀ j, j < 8 → S.testBit j = true → V j ≠ 0
      · have hk : es_ok m S T := ⟨ho, fun j hj hb z => hnz j hj hb ((hzz j hj).mp z)⟩
        have hV0 : ∀ j, j < 8 → ¬ S.testBit j = true → V j = 0 := fun j hj hb => (hzz j hj).mp (es_v0 ho hb)
        obtain ⟨hq1, hq2⟩ := md_eq (t := t) hm hT hS h0 hk hV1 hpr
        have hA1 : (∀ j, j < 8 → S.testBit j = true → V j ≠ 0 ∧ (t.testBit j = false → 0 ≤ V j * 1)) ↔ sg_A S t V := ⟨fun h j hj hb ht => by have := (h j hj hb).2 ht; omega, fun h j hj hb => ⟨hnz j hj hb, fun ht => by have := h j hj hb ht; omega⟩⟩
        have hB1 : (∀ j, j < 8 → S.testBit j = true → V j ≠ 0 ∧ (t.testBit j = false → 0 ≤ V j * (-1))) ↔ sg_B S t V := ⟨fun h j hj hb ht => by have := (h j hj hb).2 ht; omega, fun h j hj hb => ⟨hnz j hj hb, fun ht => by have := h j hj hb ht; omega⟩⟩
        have hfin : ∀ x3 x4 : Int32, (x3 = 0 ↔ ¬ sg_A S t V) → (x4 = 0 ↔ ¬ sg_B S t V) → (sg_A S t V ∨ sg_B S t V) → wY_look_98 post (nI S) x3 x4 (nI m) (nI r) (nI cnt) tA bA oA w1 s1 v1 uA nA xA := by
          intro x3 x4 h3 h4 hor
          have hsg : sg_s S t V ≠ 0 := by
            by_cases a : sg_A S t V <;> by_cases b : sg_B S t V
            · rw [sg_1 a b]; split <;> decide
            · rw [sg_2 a b]; decide
            · rw [sg_3 a b]; decide
            · exact absurd hor (fun z => z.elim a b)
          refine yl_98 (nI m) (nI r) tA bA oA w1 s1 v1 uA nA xA post x3 x4 S t cnt V hS h0 hcnt hv1 hVb hnz hV0 h3 h4 hor (fun x tv hx1 hx2 htv => ?_)
          exact hg ⟨h0, hSr, hSo, hk, fun z => hsg (hq2.mpr z)⟩ w1 s1 v1 x tv hx1 (fun j hj => by rw [hx2 j hj, hq1 j hj]) htv
        refine yl_flows (nI r) (nI cnt) tA bA oA w1 s1 v1 uA nA xA _ (nI m) 1 S t V 1 rfl (by decide) hS hB hv1 hVb (fun ha => ?_) (fun ha => ?_)
        · refine yl_flows (nI r) (nI cnt) tA bA oA w1 s1 v1 uA nA xA _ (nI m) (-1) S t V (-1) rfl (by decide) hS hB hv1 hVb (fun hb => ?_) (fun hb => ?_)
          · exact br_f (by decide) (hfin 1 1 ⟨fun z => absurd z (by decide), fun z => absurd (hA1.mp ha) z⟩ ⟨fun z => absurd z (by decide), fun z => absurd (hB1.mp hb) z⟩ (Or.inl (hA1.mp ha)))
          · exact br_f (by decide) (hfin 1 0 ⟨fun z => absurd z (by decide), fun z => absurd (hA1.mp ha) z⟩ ⟨fun _ z => hb (hB1.mpr z), fun _ => rfl⟩ (Or.inl (hA1.mp ha)))
        · refine yl_flows (nI r) (nI cnt) tA bA oA w1 s1 v1 uA nA xA _ (nI m) (-1) S t V (-1) rfl (by decide) hS hB hv1 hVb (fun hb => ?_) (fun hb => ?_)
          · exact br_t rfl (br_f (by decide) (hfin 0 1 ⟨fun _ z => ha (hA1.mpr z), fun _ => rfl⟩ ⟨fun z => absurd z (by decide), fun z => absurd (hB1.mp hb) z⟩ (Or.inr (hB1.mp hb))))
          · refine br_t rfl (br_t rfl (hn (fun z => z.2.2.2.2 (hq2.mp ?_)) w1 s1 v1))
            exact sg_4 (fun z => ha (hA1.mpr z)) (fun z => hb (hB1.mpr z))
      · have hnok : ¬ md_g m r T t o S := fun z => hnz (fun j hj hb hz => z.2.2.2.1.2 j hj hb ((hzz j hj).mpr hz))
        have hf1 : ∀ sg : Int, ¬ ∀ j, j < 8 → S.testBit j = true → V j ≠ 0 ∧ (t.testBit j = false → 0 ≤ V j * sg) := fun sg z => hnz (fun j hj hb => (z j hj hb).1)
        refine yl_flows (nI r) (nI cnt) tA bA oA w1 s1 v1 uA nA xA _ (nI m) 1 S t V 1 rfl (by decide) hS hB hv1 hVb (fun ha => absurd ha (hf1 1)) (fun ha => ?_)
        refine yl_flows (nI r) (nI cnt) tA bA oA w1 s1 v1 uA nA xA _ (nI m) (-1) S t V (-1) rfl (by decide) hS hB hv1 hVb (fun hb => absurd hb (hf1 (-1))) (fun hb => ?_)
        exact br_t rfl (br_t rfl (hn hnok w1 s1 v1))
    | succ e ih =>
      intro j n hj hn2 hi
      obtain ⟨n, rfl⟩ : ∃ k, n = k + 1 := ⟨n - 1, by omega⟩
      rw [wY_look_2]
      refine pk_le 8 j (fun h => by omega) (fun h => ?_)
      have hnext : (S.testBit j = true → j < r ∧ o.testBit j = false) → wY_look_2 post (nI S) (nI m) (nI r) (nI cnt) tA bA oA w sI vA uA nA xA n (nI (j + 1)) := by
        intro hq
        refine ih (j + 1) n (by omega) (by omega) (fun i hi' => ?_)
        by_cases hij : i = j
        · rw [hij]; exact hq
        · exact hi i (by omega)
      by_cases hb : S.testBit j = true
      · refine yw_i1 _ (by omega) (by omega) hb (br_f (by decide) (pk_le r j (fun hrj => hn (fun z => md_hb z.2.1 j hrj hb) w sI vA) (fun hrj => ⟨vp_in_nI h (by decide), ?_⟩)))
        rw [nI_clamp (by omega)]
        cases ht : o.testBit j
        · exact br_t (yb_0 hO h ht) (nm_r (nI_1 j) (hnext (fun _ => ⟨hrj, ht⟩)))
        · refine br_f (yb_1 hO h ht) (hn (fun z => ?_) w sI vA)
          have h1 : (S &&& o).testBit j = false := by rw [z.2.2.1, Nat.zero_testBit]
          rw [Nat.testBit_and, hb, ht] at h1
          exact absurd h1 (by decide)
      · exact yw_i0 _ (by omega) (by omega) hb (br_t rfl (nm_r (nI_1 j) (hnext (fun z => absurd z hb))))
  exact ⟨9, H 8 0 9 rfl (by decide) (fun i hi => absurd hi (Nat.not_lt_zero _))⟩
def md_M (m r : Nat) (T : Nat → Int) (t o n : Nat) (uA nA xA : Nat → Int32) : Prop := ∀ S, S < n → md_g m r T t o S → uA (md_c m r T t o S) = nI S ∧ (nA (md_c m r T t o S) = 0 ↔ sg_one S t ≠ 0) ∧ ∀ j, j < 8 → xA (8 * md_c m r T t o S + j) = zz_i (md_x m S T t j)
theorem md_hi {m r : Nat} {T : Nat → Int} {t o : Nat} : ∀ i, md_c m r T t o (2 ^ r + i) = md_c m r T t o (2 ^ r) := by
  intro i
  induction i with
  | zero => rfl
  | succ i ih => rw [← Nat.add_assoc, md_cN (fun z => by have := z.2.1; omega), ih]
theorem md_256 {m r : Nat} {T : Nat → Int} {t o : Nat} (hr : r ≤ 8) : md_c m r T t o 256 = md_c m r T t o (2 ^ r) := by
  have h := md_p8 hr
  have := md_hi (m := m) (r := r) (T := T) (t := t) (o := o) (256 - 2 ^ r)
  rw [show 2 ^ r + (256 - 2 ^ r) = 256 by omega] at this
  exact this
theorem yl_list (post : SY → Prop) (fc : Int32) (tA bA oA : Nat → Int32) (w : Nat → Int64) (sI : Nat → Int32) (vA : Nat → Int64) (uA nA xA : Nat → Int32) (m r t o : Nat) (T : Nat → Int) (hm : m ≤ 4) (hr : r ≤ 8) (hT : ∀ i, (T i).natAbs ≤ 3) (hA : ∀ i, i < 32 → tA i = zz_i (T i)) (hB : yb_B t bA) (hO : yb_B o oA)
    (hp : ∀ (w : Nat → Int64) (sI : Nat → Int32) (vA : Nat → Int64) (uA nA xA : Nat → Int32), md_M m r T t o (2 ^ r) uA nA xA → post (nI m, nI r, nI (md_c m r T t o (2 ^ r)), tA, bA, oA, w, sI, vA, uA, nA, xA)) :
    wpY_list post (nI m, nI r, fc, tA, bA, oA, w, sI, vA, uA, nA, xA) := by
  have h256 := md_p8 hr
  have H : ∀ (e S n : Nat) (w : Nat → Int64) (sI : Nat → Int32) (vA : Nat → Int64) (uA nA xA : Nat → Int32), S + e = 256 → e < n → 0 < S → md_M m r T t o S uA nA xA → wY_list_7 post n (nI S) (nI m) (nI r) (nI (md_c m r T t o S)) tA bA oA w sI vA uA nA xA := by
    intro e
    induction e with
    | zero =>
      intro S n w sI vA uA nA xA hS hn h0 hL
      obtain ⟨n, rfl⟩ : ∃ k, n = k + 1 := ⟨n - 1, by omega⟩
      have hS8 : S = 256 := by omega
      subst hS8
      rw [wY_list_7]
      refine pk_le 256 256 (fun _ => ?_) (fun h => by omega)
      rw [md_256 hr]
      exact hp w sI vA uA nA xA (fun S' hS' => hL S' (by omega))
    | succ e ih =>
      intro S n w sI vA uA nA xA hS hn h0 hL
      obtain ⟨n, rfl⟩ : ∃ k, n = k + 1 := ⟨n - 1, by omega⟩
      rw [wY_list_7]
      have hcb := md_cb (m := m) (r := r) (T := T) (t := t) (o := o) S h0
      refine pk_le 256 S (fun h => by omega) (fun h => ?_)
      refine yl_look _ tA bA oA w sI vA uA nA xA m r t o S (md_c m r T t o S) T hm hr h h0 (by omega) hT hA hB hO (fun hg w1 s1 v1 x1 tv hx1 hx2 htv => nm_r (nI_1 S) ?_) (fun hg w1 s1 v1 => nm_r (nI_1 S) ?_)
      · have := ih (S + 1) n w1 s1 v1 (upd uA (md_c m r T t o S) (nI S)) (upd nA (md_c m r T t o S) tv) x1 (by omega) (by omega) (by omega) (fun S' hS' hg' => ?_)
        · rw [md_cP hg] at this; exact this
        · by_cases hs : S' = S
          · subst hs; exact ⟨pk_us, by rw [pk_us]; exact htv, hx2⟩
          · have hlt := md_cl hg' (show S' < S by omega)
            obtain ⟨l1, l2, l3⟩ := hL S' (by omega) hg'
            refine ⟨by rw [pk_un (by omega)]; exact l1, by rw [pk_un (by omega)]; exact l2, fun j hj => ?_⟩
            rw [hx1 _ (by omega)]; exact l3 j hj
      · have := ih (S + 1) n w1 s1 v1 uA nA xA (by omega) (by omega) (by omega) (fun S' hS' hg' => hL S' (by
          by_cases hs : S' = S
          · subst hs; exact absurd hg' hg
          · omega) hg')
        rw [md_cN hg] at this; exact this
  have := H 255 1 256 w sI vA uA nA xA rfl (by decide) (by decide) (fun S hS hg => by have := hg.1; omega)
  rw [md_1] at this
  exact ⟨256, this⟩
