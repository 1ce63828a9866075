/-! the list of modes: what it is, and that the component makes it -/
noncomputable def md_x (m S : Nat) (T : Nat → Int) (t j : Nat) : Int := sg_s S t (es_v m S T) * (es_v m S T j).tdiv (zz_gg (es_v m S T) 8)
def md_g (m r : Nat) (T : Nat → Int) (t o S : Nat) : Prop := 0 < S ∧ S < 2 ^ r ∧ S &&& o = 0 ∧ es_ok m S T ∧ sg_s S t (es_v m S T) ≠ 0
noncomputable def md_c (m r : Nat) (T : Nat → Int) (t o : Nat) : Nat → Nat
  | 0 => 0
  | n + 1 => md_c m r T t o n + @ite _ (md_g m r T t o n) (Classical.propDecidable _) 1 0
section
variable {m r : Nat} {T : Nat → Int} {t o : Nat}
theorem md_cP {n : Nat} (h : md_g m r T t o n) : md_c m r T t o (n + 1) = md_c m r T t o n + 1 := by
  show _ + _ = _; rw [if_pos h]
theorem md_cN {n : Nat} (h : ¬ md_g m r T t o n) : md_c m r T t o (n + 1) = md_c m r T t o n := by
  show _ + _ = _; rw [if_neg h]; rfl
theorem md_cm {a : Nat} : ∀ n, a ≤ n → md_c m r T t o a ≤ md_c m r T t o n := by
  intro n
  induction n with
  | zero => intro h; rw [show a = 0 by omega]; exact Nat.le_refl _
  | succ n ih =>
    intro h
    by_cases ha : a = n + 1
    · rw [ha]; exact Nat.le_refl _
    · have := ih (by omega)
      by_cases hg : md_g m r T t o n
      · rw [md_cP hg]; omega
      · rw [md_cN hg]; omega
theorem md_cl {a n : Nat} (h : md_g m r T t o a) (ha : a < n) : md_c m r T t o a < md_c m r T t o n := by
  have := md_cm (m := m) (r := r) (T := T) (t := t) (o := o) (a := a + 1) n (by omega)
  rw [md_cP h] at this; omega
theorem md_cb : ∀ n, 0 < n → md_c m r T t o n < n := by
  intro n
  induction n with
  | zero => intro h; omega
  | succ n ih =>
    intro _
    by_cases hg : md_g m r T t o n
    · rw [md_cP hg]; have := ih hg.1; omega
    · rw [md_cN hg]
      rcases Nat.eq_zero_or_pos n with h | h
      · rw [h]; exact Nat.zero_lt_one
      · have := ih h; omega
theorem md_ce {i : Nat} : ∀ n, i < md_c m r T t o n → ∃ S, S < n ∧ md_g m r T t o S ∧ md_c m r T t o S = i := by
  intro n
  induction n with
  | zero => intro h; exact absurd h (Nat.not_lt_zero _)
  | succ n ih =>
    intro h
    by_cases hg : md_g m r T t o n
    · rw [md_cP hg] at h
      by_cases hi : i = md_c m r T t o n
      · exact ⟨n, by omega, hg, hi.symm⟩
      · obtain ⟨S, h1, h2⟩ := ih (by omega)
        exact ⟨S, by omega, h2⟩
    · rw [md_cN hg] at h
      obtain ⟨S, h1, h2⟩ := ih h
      exact ⟨S, by omega, h2⟩
theorem md_1 : md_c m r T t o 1 = 0 := by rw [md_cN (fun z => absurd z.1 (Nat.lt_irrefl _))]; rfl
theorem md_xb {S : Nat} (hm : m ≤ 4) (hT : ∀ i, (T i).natAbs ≤ 3) (hk : es_ok m S T) {j : Nat} (hj : j < 8) : (md_x m S T t j).natAbs ≤ 1944 := by
  unfold md_x
  have h1 := es_vb hm hT (by have := hk.1; omega : 1 ≤ (es_run m S T 8).2.2.1) hj
  have h2 : ((es_v m S T j).tdiv (zz_gg (es_v m S T) 8)).natAbs ≤ 1944 := by
    rw [Int.natAbs_tdiv]; exact Nat.le_trans (Nat.div_le_self _ _) h1
  rcases sg_r S t (es_v m S T) with h | h | h
  · rw [h, Int.one_mul]; exact h2
  · rw [h, Int.neg_one_mul, Int.natAbs_neg]; exact h2
  · rw [h, Int.zero_mul]; decide
end
def md_L (m r : Nat) (T : Nat → Int) (t o n : Nat) (sA xA : Nat → Int32) : Prop := ∀ S, S < n → md_g m r T t o S → sA (md_c m r T t o S) = nI S ∧ ∀ j, j < 8 → xA (8 * md_c m r T t o S + j) = zz_i (md_x m S T t j)
theorem xl_ad33 (post : SX → Prop) (fm fr ft fo : Int32) (tA sA w pA cA xA : Nat → Int32) (S cnt g : Nat) (sg : Int) (f : Nat → Int) (hcnt : cnt < 256) (hg : g ≠ 0) (hgb : g ≤ 1944) (hc : ∀ j, j < 8 → cA j = zz_i (f j)) (hfb : ∀ j, j < 8 → (f j).natAbs ≤ 1944)
    (hp : ∀ x : Nat → Int32, (∀ i, i < 8 * cnt → x i = xA i) → (∀ j, j < 8 → x (8 * cnt + j) = zz_i (sg * (f j).tdiv g)) → post (fm, fr, ft, fo, nI (cnt + 1), tA, upd sA cnt (nI S), x, w, pA, cA)) :
    ∀ (e i n : Nat) (x : Nat → Int32), i + e = 8 → e < n → (∀ q, q < 8 * cnt → x q = xA q) → (∀ j, j < i → x (8 * cnt + j) = zz_i (sg * (f j).tdiv g)) → wX_addMode_33 post (nI S) (zz_i sg) (zz_i g) fm fr ft fo (nI cnt) n (nI i) tA sA x w pA cA := by
  intro e
  induction e with
  | zero =>
    intro i n x hi hn h1 h2
    obtain ⟨n, rfl⟩ : ∃ k, n = k + 1 := ⟨n - 1, by omega⟩
    rw [wX_addMode_33]
    exact pk_le 8 i (fun _ => ⟨vp_in_nI hcnt (by decide), nm_r (e' := upd sA cnt (nI S)) (by rw [nI_clamp (by omega)]) (nm_r (nI_1 cnt) (hp x h1 (fun j hj => h2 j (by omega))))⟩) (fun h => by omega)
  | succ e ih =>
    intro i n x hi hn h1 h2
    obtain ⟨n, rfl⟩ : ∃ k, n = k + 1 := ⟨n - 1, by omega⟩
    rw [wX_addMode_33]
    refine pk_le 8 i (fun h => by omega) (fun h => ⟨vp_in_nI h (by decide), ?_⟩)
    rw [nI_clamp (by omega), hc i h]
    have hfi := hfb i h
    have hg0 : ¬ zz_i g = 0 := fun z => by have := (zz_ie0 (by omega)).mp z; omega
    have c1 : (nI cnt * 8 + nI i).toNatClampNeg = 8 * cnt + i := by rw [zz_x, nI_clamp (by omega)]
    have v1 : vp_in (nI cnt * 8 + nI i) 2048 := by rw [zz_x]; exact vp_in_nI (by omega) (by decide)
    refine br_f hg0 ⟨hg0, v1, nm_r (e' := upd x (8 * cnt + i) (zz_i (sg * (f i).tdiv g))) (by rw [c1, zz_idiv (by omega) (by omega), zz_imul]) (nm_r (nI_1 i) (ih (i + 1) n _ (by omega) (by omega) (fun q hq => ?_) (fun j hj => ?_)))⟩
    · rw [pk_un (by omega)]; exact h1 q hq
    · by_cases hji : j = i
      · rw [hji, pk_us]
      · rw [pk_un (by omega)]; exact h2 j (by omega)
theorem xl_add (post : SX → Prop) (fm fr ft fo : Int32) (tA sA w pA cA xA : Nat → Int32) (S cnt : Nat) (sg : Int) (f : Nat → Int) (hcnt : cnt < 256) (hg : zz_gg f 8 ≠ 0) (hc : ∀ j, j < 8 → cA j = zz_i (f j)) (hfb : ∀ j, j < 8 → (f j).natAbs ≤ 1944)
    (hp : ∀ x : Nat → Int32, (∀ i, i < 8 * cnt → x i = xA i) → (∀ j, j < 8 → x (8 * cnt + j) = zz_i (sg * (f j).tdiv (zz_gg f 8))) → post (fm, fr, ft, fo, nI (cnt + 1), tA, upd sA cnt (nI S), x, w, pA, cA)) :
    wpX_addMode post (fm, fr, ft, fo, nI cnt, tA, sA, xA, w, pA, cA) (nI S) (zz_i sg) := by
  have hB : ∀ n, n ≤ 8 → zz_gg f n ≤ 1944 := fun n hn => gg_b n (fun c hc => hfb c (by omega))
  have H : ∀ (e i n : Nat), i + e = 8 → e < n → wX_addMode_5 post (nI S) (zz_i sg) fm fr ft fo (nI cnt) tA sA xA w pA cA n (zz_i (zz_gg f i)) (nI i) := by
    intro e
    induction e with
    | zero =>
      intro i n hi hn
      obtain ⟨n, rfl⟩ : ∃ k, n = k + 1 := ⟨n - 1, by omega⟩
      have hi8 : i = 8 := by omega
      subst hi8
      rw [wX_addMode_5]
      exact pk_le 8 8 (fun _ => ⟨9, xl_ad33 post fm fr ft fo tA sA w pA cA xA S cnt _ sg f hcnt hg (hB 8 (by omega)) hc hfb hp 8 0 9 xA rfl (by decide) (fun q hq => rfl) (fun j hj => absurd hj (Nat.not_lt_zero _))⟩) (fun h => by omega)
    | succ e ih =>
      intro i n hi hn
      obtain ⟨n, rfl⟩ : ∃ k, n = k + 1 := ⟨n - 1, by omega⟩
      rw [wX_addMode_5]
      refine pk_le 8 i (fun h => by omega) (fun h => ⟨vp_in_nI h (by decide), ?_⟩)
      rw [nI_clamp (by omega), hc i h]
      have h1 := hB i (by omega)
      have h2 := hfb i h
      exact ze_cd _ (by omega) (by omega) (nm_r (nI_1 i) (ih (i + 1) n (by omega) (by omega)))
  exact ⟨9, H 8 0 9 rfl (by decide)⟩
theorem md_gg {m S : Nat} {T : Nat → Int} (hm : m ≤ 4) (hT : ∀ i, (T i).natAbs ≤ 3) (hk : es_ok m S T) : zz_gg (es_v m S T) 8 ≠ 0 := by
  intro h0
  have hf := es_of (m := m) (S := S) (T := T) 8 (by have := hk.1; omega)
  exact hk.2 _ hf.1 hf.2.1 (gg_z h0 hf.1)
theorem md_hb {r S : Nat} (h : S < 2 ^ r) : ∀ j, r ≤ j → ¬ S.testBit j = true := by
  intro j hj
  rw [Nat.testBit_lt_two_pow (Nat.lt_of_lt_of_le h (Nat.pow_le_pow_right (by decide) hj))]; decide
theorem md_p8 {r : Nat} (h : r ≤ 8) : 2 ^ r ≤ 256 := Nat.le_trans (Nat.pow_le_pow_right (by decide) h) (by decide)
theorem xl_l14 (post : SX → Prop) (tA : Nat → Int32) (m r t o : Nat) (T : Nat → Int) (hm : m ≤ 4) (hr : r ≤ 8) (ho : o < 256) (hT : ∀ i, (T i).natAbs ≤ 3) (hA : ∀ i, i < 32 → tA i = zz_i (T i))
    (hp : ∀ sA xA w p c : Nat → Int32, md_L m r T t o (2 ^ r) sA xA → post (nI m, nI r, nI t, nI o, nI (md_c m r T t o (2 ^ r)), tA, sA, xA, w, p, c)) :
    ∀ (e S n : Nat) (sA xA w p c : Nat → Int32), S + e = 2 ^ r → e < n → 0 < S → md_L m r T t o S sA xA → wX_listModes_14 post (nI (2 ^ r)) n (nI S) (nI m) (nI r) (nI t) (nI o) (nI (md_c m r T t o S)) tA sA xA w p c := by
  have h256 := md_p8 hr
  intro e
  induction e with
  | zero =>
    intro S n sA xA w p c hS hn h0 hL
    obtain ⟨n, rfl⟩ : ∃ k, n = k + 1 := ⟨n - 1, by omega⟩
    have hS2 : S = 2 ^ r := by omega
    subst hS2
    rw [wX_listModes_14]
    exact pk_le (2 ^ r) (2 ^ r) (fun _ => hp sA xA w p c hL) (fun h => by omega)
  | succ e ih =>
    intro S n sA xA w p c hS hn h0 hL
    obtain ⟨n, rfl⟩ : ∃ k, n = k + 1 := ⟨n - 1, by omega⟩
    have hS2 : S < 2 ^ r := by omega
    have hno : ∀ w p c : Nat → Int32, ¬ md_g m r T t o S → wX_listModes_14 post (nI (2 ^ r)) n (nI (S + 1)) (nI m) (nI r) (nI t) (nI o) (nI (md_c m r T t o S)) tA sA xA w p c := by
      intro w p c hg
      have := ih (S + 1) n sA xA w p c (by omega) (by omega) (by omega) (fun S' hS' hg' => hL S' (by
        by_cases hs : S' = S
        · subst hs; exact absurd hg' hg
        · omega) hg')
      rw [md_cN hg] at this
      exact this
    rw [wX_listModes_14]
    refine pk_le (2 ^ r) S (fun h => by omega) (fun h => ?_)
    rw [nx_and]
    have hand : S &&& o ≤ S := Nat.and_le_left
    refine pk_eq (S &&& o) 0 (fun hso => ?_) (fun hso => nm_r (nI_1 S) (hno w p c (fun z => hso z.2.2.1)))
    refine xl_find _ (nI t) (nI o) _ tA sA xA w p c m r S T hm hr (by omega) (md_hb hS2) hT hA (fun hk w1 p1 c1 hc1 => ?_) (fun hk w1 p1 c1 => br_t rfl (nm_r (nI_1 S) (hno w1 p1 c1 (fun z => hk z.2.2.2.1))))
    refine br_f (by decide) ?_
    have hvb : ∀ j, j < 8 → (es_v m S T j).natAbs ≤ 1944 := fun j hj => es_vb hm hT (by have := hk.1; omega) hj
    refine xl_sign _ (nI m) (nI o) _ tA sA xA w1 p1 c1 r t S (es_v m S T) hr (by omega) h0 (md_hb hS2) hc1 hvb hk.2 ?_
    have hsb := sg_r S t (es_v m S T)
    have hs0 : zz_i (sg_s S t (es_v m S T)) = 0 ↔ sg_s S t (es_v m S T) = 0 := zz_ie0 (by omega)
    by_cases hsg : sg_s S t (es_v m S T) = 0
    · exact br_t (hs0.mpr hsg) (nm_r (nI_1 S) (hno w1 p1 c1 (fun z => z.2.2.2.2 hsg)))
    · have hg : md_g m r T t o S := ⟨h0, hS2, hso, hk, hsg⟩
      have hcb := md_cb (m := m) (r := r) (T := T) (t := t) (o := o) S h0
      refine br_f (fun z => hsg (hs0.mp z)) ?_
      refine xl_add _ (nI m) (nI r) (nI t) (nI o) tA sA w1 p1 c1 xA S (md_c m r T t o S) _ (es_v m S T) (by omega) (md_gg hm hT hk) hc1 hvb (fun x1 hx1 hx2 => nm_r (nI_1 S) ?_)
      have := ih (S + 1) n (upd sA (md_c m r T t o S) (nI S)) x1 w1 p1 c1 (by omega) (by omega) (by omega) (fun S' hS' hg' => ?_)
      · rw [md_cP hg] at this; exact this
      · by_cases hs : S' = S
        · subst hs; exact ⟨pk_us, hx2⟩
        · have hlt := md_cl hg' (show S' < S by omega)
          obtain ⟨l1, l2⟩ := hL S' (by omega) hg'
          refine ⟨by rw [pk_un (by omega)]; exact l1, fun j hj => ?_⟩
          rw [hx1 _ (by omega)]; exact l2 j hj
theorem xl_list (post : SX → Prop) (fc : Int32) (tA sA xA w p c : Nat → Int32) (m r t o : Nat) (T : Nat → Int) (hm : m ≤ 4) (hr : r ≤ 8) (ho : o < 256) (hT : ∀ i, (T i).natAbs ≤ 3) (hA : ∀ i, i < 32 → tA i = zz_i (T i))
    (hp : ∀ sA xA w p c : Nat → Int32, md_L m r T t o (2 ^ r) sA xA → post (nI m, nI r, nI t, nI o, nI (md_c m r T t o (2 ^ r)), tA, sA, xA, w, p, c)) :
    wpX_listModes post (nI m, nI r, nI t, nI o, fc, tA, sA, xA, w, p, c) := by
  refine nm_r (zz_sh (by omega)) ⟨2 ^ r + 1, ?_⟩
  have h1 : 0 < 2 ^ r := Nat.two_pow_pos r
  have := xl_l14 post tA m r t o T hm hr ho hT hA hp (2 ^ r - 1) 1 (2 ^ r + 1) sA xA w p c (by omega) (by omega) (by omega) (fun S hS hg => by have := hg.1; omega)
  rw [md_1] at this
  exact this
