/-! yieldTop and yieldBottom -/
def yn_n (xA : Nat → Int32) (i a b : Nat) : Int := if 0 ≤ rl_T xA (8 * i + a) then rl_T xA (8 * i + b) else -rl_T xA (8 * i + b)
def yn_d (xA : Nat → Int32) (i a : Nat) : Int := if 0 ≤ rl_T xA (8 * i + a) then rl_T xA (8 * i + a) else -rl_T xA (8 * i + a)
section
variable (m r t o cnt : Nat) (tA sA xA w p c : Nat → Int32) (bA oA : Nat → Int32)
theorem yn_b (hX : rl_X cnt sA xA) {i a b : Nat} (hi : i < cnt) (ha : a < 8) (hb : b < 8) : (yn_n xA i a b).natAbs ≤ 1944 ∧ (yn_d xA i a).natAbs ≤ 1944 := by
  have h1 := ((hX.2 i hi).2.2 a ha).1
  have h2 := ((hX.2 i hi).2.2 b hb).1
  unfold yn_n yn_d
  constructor
  · split <;> omega
  · split <;> omega
theorem ql_num (hX : rl_X cnt sA xA) {i a b : Nat} (hi : i < cnt) (ha : a < 8) (hb : b < 8) (post : Int32 → Prop) (hp : post (zz_i (yn_n xA i a b))) : wpX_yieldNumerator post (nI m, nI r, nI t, nI o, nI cnt, tA, sA, xA, w, p, c) (nI i) (nI a) (nI b) := by
  have hc := hX.1
  obtain ⟨z1, e1⟩ := (hX.2 i hi).2.2 a ha
  obtain ⟨z2, e2⟩ := (hX.2 i hi).2.2 b hb
  have c1 : (nI i * 8 + nI a).toNatClampNeg = 8 * i + a := by rw [zz_x, nI_clamp (by omega)]
  have v1 : vp_in (nI i * 8 + nI a) 2048 := by rw [zz_x]; exact vp_in_nI (by omega) (by decide)
  have c2 : (nI i * 8 + nI b).toNatClampNeg = 8 * i + b := by rw [zz_x, nI_clamp (by omega)]
  have v2 : vp_in (nI i * 8 + nI b) 2048 := by rw [zz_x]; exact vp_in_nI (by omega) (by decide)
  refine ⟨v2, nm_r (e' := zz_i (rl_T xA (8 * i + b))) (by rw [c2]; exact e2) ⟨v1, ?_⟩⟩
  rw [c1, e1]
  unfold yn_n at hp
  by_cases h : 0 ≤ rl_T xA (8 * i + a)
  · rw [if_pos h] at hp
    exact br_t ((zz_i0le (by omega)).mpr h) hp
  · rw [if_neg h] at hp
    refine br_f (fun z => h ((zz_i0le (by omega)).mp z)) ?_
    rw [zz_ineg]; exact hp
theorem ql_den (hX : rl_X cnt sA xA) {i a : Nat} (hi : i < cnt) (ha : a < 8) (post : Int32 → Prop) (hp : post (zz_i (yn_d xA i a))) : wpX_yieldDenominator post (nI m, nI r, nI t, nI o, nI cnt, tA, sA, xA, w, p, c) (nI i) (nI a) := by
  have hc := hX.1
  obtain ⟨z1, e1⟩ := (hX.2 i hi).2.2 a ha
  have c1 : (nI i * 8 + nI a).toNatClampNeg = 8 * i + a := by rw [zz_x, nI_clamp (by omega)]
  have v1 : vp_in (nI i * 8 + nI a) 2048 := by rw [zz_x]; exact vp_in_nI (by omega) (by decide)
  refine ⟨v1, nm_r (e' := zz_i (rl_T xA (8 * i + a))) (by rw [c1]; exact e1) ?_⟩
  unfold yn_d at hp
  by_cases h : 0 ≤ rl_T xA (8 * i + a)
  · rw [if_pos h] at hp
    exact br_t ((zz_i0le (by omega)).mpr h) hp
  · rw [if_neg h] at hp
    refine br_f (fun z => h ((zz_i0le (by omega)).mp z)) ?_
    rw [zz_ineg]; exact hp
theorem ql_more (hX : rl_X cnt sA xA) {i q a b : Nat} (hi : i < cnt) (hq : q < cnt) (ha : a < 8) (hb : b < 8) (post : Int32 → Prop) (h0 : zz_l (yn_n xA i a b) * zz_l (yn_d xA q a) ≤ zz_l (yn_n xA q a b) * zz_l (yn_d xA i a) → post 0) (h1 : ¬ zz_l (yn_n xA i a b) * zz_l (yn_d xA q a) ≤ zz_l (yn_n xA q a b) * zz_l (yn_d xA i a) → post 1) : wpX_yieldsMore post (nI m, nI r, nI t, nI o, nI cnt, tA, sA, xA, w, p, c) (nI i) (nI q) (nI a) (nI b) := by
  have b1 := yn_b cnt sA xA hX hi ha hb
  have b2 := yn_b cnt sA xA hX hq ha hb
  unfold wpX_yieldsMore
  refine ql_num m r t o cnt tA sA xA w p c hX hi ha hb _ (ql_den m r t o cnt tA sA xA w p c hX hi ha _ (ql_num m r t o cnt tA sA xA w p c hX hq ha hb _ (ql_den m r t o cnt tA sA xA w p c hX hq ha _ ?_)))
  rw [zz_il (by omega), zz_il (by omega), zz_il (by omega), zz_il (by omega)]
  exact ⟨h0, h1⟩
theorem ql_97 (hX : rl_X cnt sA xA) {i a b : Nat} (hi : i < cnt) (ha : a < 8) (hb : b < 8) (fm fr x3 : Int32) (w' : Nat → Int64) (sI : Nat → Int32) (vA : Nat → Int64) (uA nA yA : Nat → Int32) (hQ : rl_Y cnt t sA xA uA nA yA) (post : Int32 → SY → Prop) (J : Int32 → Int32 → Prop)
    (hx : x3 = -1 ∨ ∃ q, q < cnt ∧ x3 = nI q) (hm1 : x3 = -1 → J (nI i) (nI (i + 1))) (h0 : ∀ q, q < cnt → x3 = nI q → zz_l (yn_n xA i a b) * zz_l (yn_d xA q a) ≤ zz_l (yn_n xA q a b) * zz_l (yn_d xA i a) → J x3 (nI (i + 1))) (h1 : ∀ q, q < cnt → x3 = nI q → ¬ zz_l (yn_n xA i a b) * zz_l (yn_d xA q a) ≤ zz_l (yn_n xA q a b) * zz_l (yn_d xA i a) → J (nI i) (nI (i + 1))) :
    wY_bestYield_97 post J (nI a) (nI b) x3 (nI i) (zz_l (yn_d xA i a)) (zz_l (yn_n xA i a b)) fm fr (nI cnt) tA bA oA w' sI vA uA nA yA := by
  have hc := hX.1
  rcases hx with rfl | ⟨q, hq, rfl⟩
  · exact br_f (by decide) (nm_r (nI_1 i) (hm1 rfl))
  · have c1 : (8 * nI q + nI a).toNatClampNeg = 8 * q + a := by rw [zz_y, nI_clamp (by omega)]
    have v1 : vp_in (8 * nI q + nI a) 2048 := by rw [zz_y]; exact vp_in_nI (by omega) (by decide)
    have c2 : (8 * nI q + nI b).toNatClampNeg = 8 * q + b := by rw [zz_y, nI_clamp (by omega)]
    have v2 : vp_in (8 * nI q + nI b) 2048 := by rw [zz_y]; exact vp_in_nI (by omega) (by decide)
    have z1 := ((hX.2 q hq).2.2 a ha).1
    have z2 := ((hX.2 q hq).2.2 b hb).1
    have hend : wY_bestYield_152 post J (nI a) (nI b) (nI q) (nI i) (zz_l (yn_d xA i a)) (zz_l (yn_n xA i a b)) (zz_l (yn_d xA q a)) (zz_l (yn_n xA q a b)) fm fr (nI cnt) tA bA oA w' sI vA uA nA yA :=
      ⟨fun z => nm_r (nI_1 i) (h0 q hq rfl z), fun z => nm_r (nI_1 i) (h1 q hq rfl z)⟩
    refine br_t (nI_pos' (by omega)) ⟨v1, nm_r (e' := zz_l (rl_T xA (8 * q + a))) (by rw [c1, (hQ q hq).2.2 a ha, zz_il (by omega)]) ⟨v2, nm_r (e' := zz_l (rl_T xA (8 * q + b))) (by rw [c2, (hQ q hq).2.2 b hb, zz_il (by omega)]) ?_⟩⟩
    unfold yn_n yn_d at hend ⊢
    by_cases h : 0 ≤ rl_T xA (8 * q + a)
    · rw [if_pos h, if_pos h] at hend
      exact br_t ((zz_l0le (by omega)).mpr h) hend
    · rw [if_neg h, if_neg h] at hend
      exact br_f (fun z => h ((zz_l0le (by omega)).mp z)) (nm_r (zz_lneg _) (nm_r (zz_lneg _) hend))
theorem ql_best (hX : rl_X cnt sA xA) (a b : Nat) (ha : a < 8) (hb : b < 8) : ∀ e i (x : Int32), i + e = cnt → (x = -1 ∨ ∃ q, q < cnt ∧ x = nI q ∧ rl_T xA (8 * q + a) ≠ 0) → ∃ s : Int32, (s = -1 ∨ ∃ q, q < cnt ∧ s = nI q ∧ rl_T xA (8 * q + a) ≠ 0) ∧ (∀ post : Int32 → Prop, post s → wX_bestYield_23 post (nI a) (nI b) (nI m) (nI r) (nI t) (nI o) (nI cnt) tA sA xA w p c (e + 1) x (nI i)) ∧
    (∀ (w' : Nat → Int64) (sI : Nat → Int32) (vA : Nat → Int64) (uA nA yA : Nat → Int32), rl_Y cnt t sA xA uA nA yA → ∀ post : Int32 → SY → Prop, post s (nI m, nI r, nI cnt, tA, bA, oA, w', sI, vA, uA, nA, yA) → wY_bestYield_9 post (nI a) (nI b) (nI m) (nI r) (nI cnt) tA bA oA w' sI vA uA nA yA (e + 1) x (nI i)) := by
  have hc := hX.1
  intro e
  induction e with
  | zero =>
    intro i x hi hx
    have h : nI cnt ≤ nI i := nI_le (by omega) (by omega)
    exact ⟨x, hx, fun post hp => br_t h hp, fun w' sI vA uA nA yA hQ post hp => br_t h hp⟩
  | succ e ih =>
    intro i x hi hx
    have hic : i < cnt := by omega
    have h : ¬ nI cnt ≤ nI i := nI_ge (by omega) (by omega)
    have h2 : ¬ (256 : Int32) ≤ nI i := nI_ge (b := 256) (by omega) (by decide)
    have hv : vp_in (nI i) 256 := vp_in_nI (by omega) (by decide)
    have ci : (nI i).toNatClampNeg = i := nI_clamp (by omega)
    have c1 : (8 * nI i + nI a).toNatClampNeg = 8 * i + a := by rw [zz_y, nI_clamp (by omega)]
    have v1 : vp_in (8 * nI i + nI a) 2048 := by rw [zz_y]; exact vp_in_nI (by omega) (by decide)
    have c2 : (8 * nI i + nI b).toNatClampNeg = 8 * i + b := by rw [zz_y, nI_clamp (by omega)]
    have v2 : vp_in (8 * nI i + nI b) 2048 := by rw [zz_y]; exact vp_in_nI (by omega) (by decide)
    obtain ⟨z1, e1⟩ := (hX.2 i hic).2.2 a ha
    obtain ⟨z2, e2⟩ := (hX.2 i hic).2.2 b hb
    have l0 := zz_l0lt (a := rl_T xA (8 * i + a)) (by omega)
    have l1 := zz_l0le (a := rl_T xA (8 * i + a)) (by omega)
    have hx' : x = -1 ∨ ∃ q, q < cnt ∧ x = nI q := hx.imp id (fun ⟨q, h1, h2, _⟩ => ⟨q, h1, h2⟩)
    by_cases hq : ql_r t i a sA xA 1
    · -- the mode runs
      have hYgo : ∀ (w' : Nat → Int64) (sI : Nat → Int32) (vA : Nat → Int64) (uA nA yA : Nat → Int32), rl_Y cnt t sA xA uA nA yA → ∀ post : Int32 → SY → Prop, wY_bestYield_97 post (wY_bestYield_9 post (nI a) (nI b) (nI m) (nI r) (nI cnt) tA bA oA w' sI vA uA nA yA (e + 1)) (nI a) (nI b) x (nI i) (zz_l (yn_d xA i a)) (zz_l (yn_n xA i a b)) (nI m) (nI r) (nI cnt) tA bA oA w' sI vA uA nA yA → wY_bestYield_9 post (nI a) (nI b) (nI m) (nI r) (nI cnt) tA bA oA w' sI vA uA nA yA (e + 1 + 1) x (nI i) := by
        intro w' sI vA uA nA yA hQ post h97
        refine br_f h (br_f h2 ⟨v1, nm_r (e' := zz_l (rl_T xA (8 * i + a))) (by rw [c1, (hQ i hic).2.2 a ha, zz_il (by omega)]) ⟨v2, nm_r (e' := zz_l (rl_T xA (8 * i + b))) (by rw [c2, (hQ i hic).2.2 b hb, zz_il (by omega)]) ?_⟩⟩)
        unfold yn_n yn_d at h97
        by_cases hp0 : 0 < rl_T xA (8 * i + a)
        · rw [if_pos (by omega), if_pos (by omega)] at h97
          exact br_t (l0.mpr hp0) (br_t (l1.mpr (by omega)) h97)
        · have hz := hq.1
          rw [if_neg (by omega), if_neg (by omega)] at h97
          refine br_f (fun z => hp0 (l0.mp z)) (br_f (fun z => by have := l1.mp z; omega) ⟨hv, ?_⟩)
          rw [ci]
          have hone : sg_one (rl_S sA i) t = 0 := by
            rcases hq.2 with y | y | y
            · exact absurd y.2 (by decide)
            · omega
            · exact y
          exact br_f (fun z => (hQ i hic).2.1.mp z hone) (br_f (fun z => by have := l1.mp z; omega) (nm_r (zz_lneg _) (nm_r (zz_lneg _) h97)))
      rcases hx with rfl | ⟨q, hqc, rfl, hqz⟩
      · obtain ⟨s, hs, hX2, hY2⟩ := ih (i + 1) (nI i) (by omega) (Or.inr ⟨i, hic, rfl, hq.1⟩)
        refine ⟨s, hs, fun post hp => br_f h (ql_runs m r t o cnt tA sA xA w p c hX hic ha 1 (Or.inr rfl) _ (fun _ => br_f (by decide) (br_t (by decide) (nm_r (nI_1 i) (hX2 post hp)))) (fun z => absurd hq z)), fun w' sI vA uA nA yA hQ post hp => hYgo w' sI vA uA nA yA hQ post ?_⟩
        exact ql_97 t cnt tA sA xA bA oA hX hic ha hb (nI m) (nI r) (-1) w' sI vA uA nA yA hQ post _ (Or.inl rfl) (fun _ => hY2 w' sI vA uA nA yA hQ post hp) (fun q hqc hqe => by
          have := congrArg Int32.toInt hqe
          rw [nI_toInt (by omega), show (-1 : Int32).toInt = -1 by decide] at this
          omega) (fun q hqc hqe => by
          have := congrArg Int32.toInt hqe
          rw [nI_toInt (by omega), show (-1 : Int32).toInt = -1 by decide] at this
          omega)
      · by_cases hle : zz_l (yn_n xA i a b) * zz_l (yn_d xA q a) ≤ zz_l (yn_n xA q a b) * zz_l (yn_d xA i a)
        · obtain ⟨s, hs, hX2, hY2⟩ := ih (i + 1) (nI q) (by omega) (Or.inr ⟨q, hqc, rfl, hqz⟩)
          refine ⟨s, hs, fun post hp => br_f h (ql_runs m r t o cnt tA sA xA w p c hX hic ha 1 (Or.inr rfl) _ (fun _ => br_f (by decide) (br_f (nI_pos (by omega)) (ql_more m r t o cnt tA sA xA w p c hX hic hqc ha hb _ (fun _ => br_t rfl (nm_r (nI_1 i) (hX2 post hp))) (fun z => absurd hle z)))) (fun z => absurd hq z)), fun w' sI vA uA nA yA hQ post hp => hYgo w' sI vA uA nA yA hQ post ?_⟩
          refine ql_97 t cnt tA sA xA bA oA hX hic ha hb (nI m) (nI r) (nI q) w' sI vA uA nA yA hQ post _ (Or.inr ⟨q, hqc, rfl⟩) (fun z => ?_) (fun q' _ hqe _ => hY2 w' sI vA uA nA yA hQ post hp) (fun q' hqc' hqe z => ?_)
          · have := congrArg Int32.toInt z
            rw [nI_toInt (by omega), show (-1 : Int32).toInt = -1 by decide] at this
            omega
          · rw [← (nI_eq (by omega) (by omega)).mp hqe] at z
            exact absurd hle z
        · obtain ⟨s, hs, hX2, hY2⟩ := ih (i + 1) (nI i) (by omega) (Or.inr ⟨i, hic, rfl, hq.1⟩)
          refine ⟨s, hs, fun post hp => br_f h (ql_runs m r t o cnt tA sA xA w p c hX hic ha 1 (Or.inr rfl) _ (fun _ => br_f (by decide) (br_f (nI_pos (by omega)) (ql_more m r t o cnt tA sA xA w p c hX hic hqc ha hb _ (fun z => absurd z hle) (fun _ => br_f (by decide) (nm_r (nI_1 i) (hX2 post hp)))))) (fun z => absurd hq z)), fun w' sI vA uA nA yA hQ post hp => hYgo w' sI vA uA nA yA hQ post ?_⟩
          refine ql_97 t cnt tA sA xA bA oA hX hic ha hb (nI m) (nI r) (nI q) w' sI vA uA nA yA hQ post _ (Or.inr ⟨q, hqc, rfl⟩) (fun z => hY2 w' sI vA uA nA yA hQ post hp) (fun q' hqc' hqe z => ?_) (fun q' _ hqe _ => hY2 w' sI vA uA nA yA hQ post hp)
          rw [← (nI_eq (by omega) (by omega)).mp hqe] at z
          exact absurd z hle
    · obtain ⟨s, hs, hX2, hY2⟩ := ih (i + 1) x (by omega) hx
      refine ⟨s, hs, fun post hp => br_f h (ql_runs m r t o cnt tA sA xA w p c hX hic ha 1 (Or.inr rfl) _ (fun z => absurd z hq) (fun _ => br_t rfl (nm_r (nI_1 i) (hX2 post hp)))), fun w' sI vA uA nA yA hQ post hp => ?_⟩
      refine br_f h (br_f h2 ⟨v1, nm_r (e' := zz_l (rl_T xA (8 * i + a))) (by rw [c1, (hQ i hic).2.2 a ha, zz_il (by omega)]) ⟨v2, nm_r (e' := zz_l (rl_T xA (8 * i + b))) (by rw [c2, (hQ i hic).2.2 b hb, zz_il (by omega)]) ?_⟩⟩)
      have hn1 := hY2 w' sI vA uA nA yA hQ post hp
      have hp0 : ¬ 0 < rl_T xA (8 * i + a) := fun z => hq ⟨by omega, Or.inr (Or.inl ⟨by omega, rfl⟩)⟩
      refine br_f (fun z => hp0 (l0.mp z)) ?_
      by_cases hz : 0 ≤ rl_T xA (8 * i + a)
      · exact br_t (l1.mpr hz) (nm_r (nI_1 i) hn1)
      · refine br_f (fun z => hz (l1.mp z)) ⟨hv, ?_⟩
        rw [ci]
        refine br_t ((hQ i hic).2.1.mpr (fun z => hq ⟨by omega, Or.inr (Or.inr z)⟩)) (nm_r (nI_1 i) hn1)
theorem ql_gcd (i a b : Nat) : Int.gcd (yn_n xA i a b) (yn_d xA i a) = Int.gcd (rl_T xA (8 * i + b)) (rl_T xA (8 * i + a)) := by
  unfold yn_n yn_d
  split
  · rfl
  · rw [Int.neg_gcd, Int.gcd_neg]
theorem ql_part (hX : rl_X cnt sA xA) {q a b : Nat} (hq : q < cnt) (ha : a < 8) (hb : b < 8) (hz : rl_T xA (8 * q + a) ≠ 0) (fl : Int32) (post : Int32 → Prop)
    (h1 : ¬ fl = 0 → post (zz_i ((yn_n xA q a b).tdiv (Int.gcd (rl_T xA (8 * q + b)) (rl_T xA (8 * q + a)))))) (h0 : fl = 0 → post (zz_i ((yn_d xA q a).tdiv (Int.gcd (rl_T xA (8 * q + b)) (rl_T xA (8 * q + a)))))) :
    wpX_yieldNumerator (fun r_14 => (wpX_yieldDenominator (fun r_26 => (wpX_commonDivisor (fun r_38 => (((fl = 0 → (wX_yieldPart_54 post r_38 r_26 (nI m) (nI r) (nI t) (nI o) (nI cnt) tA sA xA w p c)) ∧ (¬ fl = 0 → (wX_yieldPart_54 post r_38 r_14 (nI m) (nI r) (nI t) (nI o) (nI cnt) tA sA xA w p c))))) r_14 r_26)) (nI m, nI r, nI t, nI o, nI cnt, tA, sA, xA, w, p, c) (nI q) (nI a))) (nI m, nI r, nI t, nI o, nI cnt, tA, sA, xA, w, p, c) (nI q) (nI a) (nI b) := by
  have b1 := yn_b cnt sA xA hX hq ha hb
  have z1 := ((hX.2 q hq).2.2 a ha).1
  refine ql_num m r t o cnt tA sA xA w p c hX hq ha hb _ (ql_den m r t o cnt tA sA xA w p c hX hq ha _ (ze_cd _ (by omega) (by omega) ?_))
  rw [ql_gcd]
  have hg : Int.gcd (rl_T xA (8 * q + b)) (rl_T xA (8 * q + a)) ≤ (rl_T xA (8 * q + a)).natAbs := Nat.gcd_le_right _ (by omega)
  have hg0 : Int.gcd (rl_T xA (8 * q + b)) (rl_T xA (8 * q + a)) ≠ 0 := fun z => hz (Int.gcd_eq_zero_iff.mp z).2
  have hgi : ¬ zz_i (Int.gcd (rl_T xA (8 * q + b)) (rl_T xA (8 * q + a))) = 0 := fun z => by
    have := (zz_ie0 (by omega)).mp z; omega
  by_cases hf : fl = 0
  · refine br_t hf (br_f hgi ⟨hgi, ?_⟩)
    rw [zz_idiv (by omega) (by omega)]; exact h0 hf
  · refine br_f hf (br_f hgi ⟨hgi, ?_⟩)
    rw [zz_idiv (by omega) (by omega)]; exact h1 hf
end
theorem i_vc_yieldTop {k : Nat} {u : SX} {v : SY} (I : i_Rel k u v) (hk : k + 4 ≤ 2050) (v1 : Int32) (v2 : Int32) : wpX_yieldTop (fun r => wpY_yieldTop (fun r' v' => r' = r ∧ i_Rel (k + 4) u v') v v1 v2) u v1 v2 := by
  have I' := I
  obtain ⟨m, r, t, o, cnt, tA, sA, xA, w, p, c, fc, bA, oA, w', sI, vA, uA, nA, yA, hm, hr, hX, rfl, rfl, hY⟩ := rl_open I
  have hc := hX.1
  unfold wpX_yieldTop wpX_yieldPart wpX_bestYield wpY_yieldTop wpY_bestYield
  rcases gd_ix v1 (n := r) (by omega) with h1 | ⟨a, ha, rfl⟩
  · exact gd_J0 h1 (br_t rfl (br_f (by decide) (gd_j0 h1 (br_f (by decide) ⟨rfl, I'⟩))))
  · refine gd_J1 hr ha (br_f (by decide) ?_)
    rcases gd_ix v2 (n := r) (by omega) with h2 | ⟨b, hb, rfl⟩
    · exact gd_J0 h2 (br_t rfl (br_f (by decide) (gd_j1 hr ha (br_t rfl (gd_j0 h2 (br_f (by decide) ⟨rfl, I'⟩))))))
    · obtain ⟨s, hs, hX2, hY2⟩ := ql_best m r t o cnt tA sA xA w p c bA oA hX a b (by omega) (by omega) cnt 0 (-1) (by omega) (Or.inl rfl)
      refine gd_J1 hr hb (br_f (by decide) ⟨cnt + 1, hX2 _ ?_⟩)
      rcases hs with rfl | ⟨q, hq, rfl, hz⟩
      · refine br_f (by decide) (gd_j1 hr ha (br_t rfl (gd_j1 hr hb (br_t rfl (hY _ (fun w1 s1 a1 u1 n1 y1 hQ hR => ⟨cnt + 1, hY2 w1 s1 a1 u1 n1 y1 hQ _ ?_⟩))))))
        exact br_f (by decide) ⟨rfl, hR⟩
      · have c1 : (8 * nI q + nI a).toNatClampNeg = 8 * q + a := by rw [zz_y, nI_clamp (by omega)]
        have w1 : vp_in (8 * nI q + nI a) 2048 := by rw [zz_y]; exact vp_in_nI (by omega) (by decide)
        have c2 : (8 * nI q + nI b).toNatClampNeg = 8 * q + b := by rw [zz_y, nI_clamp (by omega)]
        have w2 : vp_in (8 * nI q + nI b) 2048 := by rw [zz_y]; exact vp_in_nI (by omega) (by decide)
        have z1 := ((hX.2 q hq).2.2 a (by omega)).1
        have z2 := ((hX.2 q hq).2.2 b (by omega)).1
        have hg : Int.gcd (rl_T xA (8 * q + b)) (rl_T xA (8 * q + a)) ≤ (rl_T xA (8 * q + a)).natAbs := Nat.gcd_le_right _ (by omega)
        have hg0 : Int.gcd (rl_T xA (8 * q + b)) (rl_T xA (8 * q + a)) ≠ 0 := fun z => hz (Int.gcd_eq_zero_iff.mp z).2
        have hgi : ¬ zz_i (Int.gcd (rl_T xA (8 * q + b)) (rl_T xA (8 * q + a))) = 0 := fun z => by
          have := (zz_ie0 (by omega)).mp z; omega
        refine br_t (nI_pos' (by omega)) (ql_part m r t o cnt tA sA xA w p c hX hq (by omega) (by omega) hz 1 _ (fun _ => ?_) (fun z => absurd z (by decide)))
        refine gd_j1 hr ha (br_t rfl (gd_j1 hr hb (br_t rfl (hY _ (fun w3 s1 a1 u1 n1 y1 hQ hR => ⟨cnt + 1, hY2 w3 s1 a1 u1 n1 y1 hQ _ ?_⟩)))))
        refine br_t (nI_pos' (by omega)) ⟨w2, nm_r (e' := zz_i (rl_T xA (8 * q + b))) (by rw [c2]; exact (hQ q hq).2.2 b (by omega)) ⟨w1, nm_r (e' := zz_i (rl_T xA (8 * q + a))) (by rw [c1]; exact (hQ q hq).2.2 a (by omega)) ?_⟩⟩
        rw [zz_il (by omega), zz_il (by omega)]
        refine yw_div _ _ (by omega) (by omega) ?_
        rw [zz_li]
        refine br_t ((zz_ile (a := 1) (by decide) (by omega)).mpr (by omega)) ?_
        by_cases hs : 0 ≤ rl_T xA (8 * q + a)
        · refine br_t ((zz_i0le (by omega)).mpr hs) ⟨hgi, ?_, hR⟩
          rw [zz_idiv (by omega) (by omega)]; unfold yn_n; rw [if_pos hs]
        · refine br_f (fun z => hs ((zz_i0le (by omega)).mp z)) ⟨hgi, ?_, hR⟩
          rw [zz_ineg, zz_idiv (by omega) (by omega)]; unfold yn_n; rw [if_neg hs]
theorem i_vc_yieldBottom {k : Nat} {u : SX} {v : SY} (I : i_Rel k u v) (hk : k + 4 ≤ 2050) (v1 : Int32) (v2 : Int32) : wpX_yieldBottom (fun r => wpY_yieldBottom (fun r' v' => r' = r ∧ i_Rel (k + 4) u v') v v1 v2) u v1 v2 := by
  have I' := I
  obtain ⟨m, r, t, o, cnt, tA, sA, xA, w, p, c, fc, bA, oA, w', sI, vA, uA, nA, yA, hm, hr, hX, rfl, rfl, hY⟩ := rl_open I
  have hc := hX.1
  unfold wpX_yieldBottom wpX_yieldPart wpX_bestYield wpY_yieldBottom wpY_bestYield
  rcases gd_ix v1 (n := r) (by omega) with h1 | ⟨a, ha, rfl⟩
  · exact gd_J0 h1 (br_t rfl (br_f (by decide) (gd_j0 h1 (br_f (by decide) ⟨rfl, I'⟩))))
  · refine gd_J1 hr ha (br_f (by decide) ?_)
    rcases gd_ix v2 (n := r) (by omega) with h2 | ⟨b, hb, rfl⟩
    · exact gd_J0 h2 (br_t rfl (br_f (by decide) (gd_j1 hr ha (br_t rfl (gd_j0 h2 (br_f (by decide) ⟨rfl, I'⟩))))))
    · obtain ⟨s, hs, hX2, hY2⟩ := ql_best m r t o cnt tA sA xA w p c bA oA hX a b (by omega) (by omega) cnt 0 (-1) (by omega) (Or.inl rfl)
      refine gd_J1 hr hb (br_f (by decide) ⟨cnt + 1, hX2 _ ?_⟩)
      rcases hs with rfl | ⟨q, hq, rfl, hz⟩
      · refine br_f (by decide) (gd_j1 hr ha (br_t rfl (gd_j1 hr hb (br_t rfl (hY _ (fun w1 s1 a1 u1 n1 y1 hQ hR => ⟨cnt + 1, hY2 w1 s1 a1 u1 n1 y1 hQ _ ?_⟩))))))
        exact br_f (by decide) ⟨rfl, hR⟩
      · have c1 : (8 * nI q + nI a).toNatClampNeg = 8 * q + a := by rw [zz_y, nI_clamp (by omega)]
        have w1 : vp_in (8 * nI q + nI a) 2048 := by rw [zz_y]; exact vp_in_nI (by omega) (by decide)
        have c2 : (8 * nI q + nI b).toNatClampNeg = 8 * q + b := by rw [zz_y, nI_clamp (by omega)]
        have w2 : vp_in (8 * nI q + nI b) 2048 := by rw [zz_y]; exact vp_in_nI (by omega) (by decide)
        have z1 := ((hX.2 q hq).2.2 a (by omega)).1
        have z2 := ((hX.2 q hq).2.2 b (by omega)).1
        have hg : Int.gcd (rl_T xA (8 * q + b)) (rl_T xA (8 * q + a)) ≤ (rl_T xA (8 * q + a)).natAbs := Nat.gcd_le_right _ (by omega)
        have hg0 : Int.gcd (rl_T xA (8 * q + b)) (rl_T xA (8 * q + a)) ≠ 0 := fun z => hz (Int.gcd_eq_zero_iff.mp z).2
        have hgi : ¬ zz_i (Int.gcd (rl_T xA (8 * q + b)) (rl_T xA (8 * q + a))) = 0 := fun z => by
          have := (zz_ie0 (by omega)).mp z; omega
        refine br_t (nI_pos' (by omega)) (ql_part m r t o cnt tA sA xA w p c hX hq (by omega) (by omega) hz 0 _ (fun z => absurd rfl z) (fun _ => ?_))
        refine gd_j1 hr ha (br_t rfl (gd_j1 hr hb (br_t rfl (hY _ (fun w3 s1 a1 u1 n1 y1 hQ hR => ⟨cnt + 1, hY2 w3 s1 a1 u1 n1 y1 hQ _ ?_⟩)))))
        refine br_t (nI_pos' (by omega)) ⟨w1, nm_r (e' := zz_i (rl_T xA (8 * q + a))) (by rw [c1]; exact (hQ q hq).2.2 a (by omega)) ⟨w2, ?_⟩⟩
        rw [c2, (hQ q hq).2.2 b (by omega), zz_il (by omega), zz_il (by omega)]
        refine yw_div _ _ (by omega) (by omega) ?_
        rw [zz_li]
        refine br_t ((zz_ile (a := 1) (by decide) (by omega)).mpr (by omega)) ?_
        by_cases hs : 0 ≤ rl_T xA (8 * q + a)
        · refine br_t ((zz_i0le (by omega)).mpr hs) ⟨hgi, ?_, hR⟩
          rw [zz_idiv (by omega) (by omega)]; unfold yn_d; rw [if_pos hs]
        · refine br_f (fun z => hs ((zz_i0le (by omega)).mp z)) ⟨hgi, ?_, hR⟩
          rw [zz_ineg, zz_idiv (by omega) (by omega)]; unfold yn_d; rw [if_neg hs]
