/-! the reference's elimination: its rows are multiples of the component's -/
def ya_E (a : Nat → Int64) (Y : Nat → Int) : Prop := ∀ q, q < 4 → ∀ c, c < 8 → a (8 * q + c) = zz_l (Y (8 * q + c))
def ya_M (S : Nat) (W : Nat → Int) (q c : Nat) : Int := if S.testBit c = true then W (8 * q + c) else 0
def ya_R (S : Nat) (W Y : Nat → Int) (q : Nat) : Prop := (∃ α β : Int, α ≠ 0 ∧ β ≠ 0 ∧ ∀ c, c < 8 → α * ya_M S W q c = β * Y (8 * q + c)) ∧ ∀ c, c < 8 → (Y (8 * q + c)).natAbs ≤ 1944
theorem ya_z {S : Nat} {W Y : Nat → Int} {q c : Nat} (h : ya_R S W Y q) (hc : c < 8) (hb : S.testBit c = true) : Y (8 * q + c) = 0 ↔ W (8 * q + c) = 0 := by
  obtain ⟨⟨α, β, hα, hβ, hh⟩, _⟩ := h
  have e := hh c hc
  unfold ya_M at e
  rw [if_pos hb] at e
  constructor
  · intro z
    rw [z, Int.mul_zero] at e
    exact (Int.mul_eq_zero.mp e).resolve_left hα
  · intro z
    rw [z, Int.mul_zero] at e
    exact (Int.mul_eq_zero.mp e.symm).resolve_left hβ
theorem yw_i1 {post : Int32 → Prop} (u : SY) {S j : Nat} (hS : S < 2 ^ 31) (hj : j < 32) (hb : S.testBit j = true) (h : post 1) : wpY_in post u (nI S) (nI j) := by
  obtain ⟨fm, fr, fc, tA, bA, oA, w, sI, vA, uA, nA, xA⟩ := u
  exact br_t (zz_b1 hS hj hb) h
theorem yw_i0 {post : Int32 → Prop} (u : SY) {S j : Nat} (hS : S < 2 ^ 31) (hj : j < 32) (hb : ¬ S.testBit j = true) (h : post 0) : wpY_in post u (nI S) (nI j) := by
  obtain ⟨fm, fr, fc, tA, bA, oA, w, sI, vA, uA, nA, xA⟩ := u
  refine br_f ?_ h
  rw [zz_b0 hS hj hb]; decide
def ys_d (Z : Nat → Int) (q g : Nat) : Nat → Int := fun i => if i / 8 = q then (Z i).tdiv g else Z i
def ys_c (Y : Nat → Int) (q p j : Nat) : Nat → Int := fun i => if i / 8 = q then Y i * Y (8 * p + j) - Y (8 * p + i % 8) * Y (8 * q + j) else Y i
theorem ys_dv (Z : Nat → Int) {q g r c : Nat} (hc : c < 8) : ys_d Z q g (8 * r + c) = if r = q then (Z (8 * r + c)).tdiv g else Z (8 * r + c) := by
  unfold ys_d
  rw [show (8 * r + c) / 8 = r by omega]
theorem ys_cv (Y : Nat → Int) {q p j r c : Nat} (hc : c < 8) : ys_c Y q p j (8 * r + c) = if r = q then Y (8 * r + c) * Y (8 * p + j) - Y (8 * p + c) * Y (8 * q + j) else Y (8 * r + c) := by
  unfold ys_c
  rw [show (8 * r + c) / 8 = r by omega, show (8 * r + c) % 8 = c by omega]
section
variable (fm fr fc : Int32) (tA bA oA : Nat → Int32) (sI : Nat → Int32) (vA : Nat → Int64) (uA nA xA : Nat → Int32)
theorem yl_sh45 (post : SY → Prop) (Z : Nat → Int) (q g : Nat) (hq : q < 4) (hg : 1 < g) (hgb : g ≤ 36028797018963968) (hZ : ∀ c, c < 8 → (Z (8 * q + c)).natAbs ≤ 36028797018963968)
    (hp : ∀ w, ya_E w (ys_d Z q g) → post (fm, fr, fc, tA, bA, oA, w, sI, vA, uA, nA, xA)) :
    ∀ (e i n : Nat) (w : Nat → Int64), i + e = 8 → e < n → (∀ r, r < 4 → ∀ c, c < 8 → w (8 * r + c) = if r = q ∧ c < i then zz_l (ys_d Z q g (8 * r + c)) else zz_l (Z (8 * r + c))) → wY_shorten_45 post (nI q) (zz_l g) fm fr fc n (nI i) tA bA oA w sI vA uA nA xA := by
  intro e
  induction e with
  | zero =>
    intro i n w hi hn hw
    obtain ⟨n, rfl⟩ : ∃ k, n = k + 1 := ⟨n - 1, by omega⟩
    rw [wY_shorten_45]
    refine pk_le 8 i (fun _ => hp w (fun r hr c hc => ?_)) (fun h => by omega)
    rw [hw r hr c hc]
    by_cases h : r = q
    · rw [if_pos ⟨h, by omega⟩]
    · rw [if_neg (fun z => h z.1), ys_dv _ hc, if_neg h]
  | succ e ih =>
    intro i n w hi hn hw
    obtain ⟨n, rfl⟩ : ∃ k, n = k + 1 := ⟨n - 1, by omega⟩
    rw [wY_shorten_45]
    refine pk_le 8 i (fun h => by omega) (fun h => ?_)
    have c1 : (8 * nI q + nI i).toNatClampNeg = 8 * q + i := by rw [zz_y, nI_clamp (by omega)]
    have v1 : vp_in (8 * nI q + nI i) 32 := by rw [zz_y]; exact vp_in_nI (by omega) (by decide)
    have hg0 : ¬ zz_l g = 0 := fun z => by have := (zz_le0 (by omega)).mp z; omega
    have hz := hZ i h
    refine ⟨v1, hg0, v1, nm_r (e' := vp_updL w (8 * q + i) (zz_l (ys_d Z q g (8 * q + i)))) ?_ (nm_r (nI_1 i) (ih (i + 1) n _ (by omega) (by omega) ?_))⟩
    · rw [c1, hw q hq i h, if_neg (by omega), zz_ldiv (by omega) (by omega), ys_dv _ h, if_pos rfl]
    · intro r hr c hc
      by_cases hx : r = q ∧ c = i
      · obtain ⟨rfl, rfl⟩ := hx
        rw [pk_uLs, if_pos (by omega)]
      · rw [pk_uLn (by omega), hw r hr c hc]
        by_cases hy : r = q ∧ c < i
        · rw [if_pos hy, if_pos (by omega)]
        · rw [if_neg hy, if_neg (by omega)]
theorem yl_sh (post : SY → Prop) (Z : Nat → Int) (q : Nat) (w : Nat → Int64) (hq : q < 4) (hw : ya_E w Z) (hZ : ∀ c, c < 8 → (Z (8 * q + c)).natAbs ≤ 36028797018963968)
    (h1 : zz_gg (fun c => Z (8 * q + c)) 8 ≤ 1 → post (fm, fr, fc, tA, bA, oA, w, sI, vA, uA, nA, xA))
    (h2 : 1 < zz_gg (fun c => Z (8 * q + c)) 8 → ∀ w', ya_E w' (ys_d Z q (zz_gg (fun c => Z (8 * q + c)) 8)) → post (fm, fr, fc, tA, bA, oA, w', sI, vA, uA, nA, xA)) :
    wpY_shorten post (fm, fr, fc, tA, bA, oA, w, sI, vA, uA, nA, xA) (nI q) := by
  have hB : ∀ n, n ≤ 8 → zz_gg (fun c => Z (8 * q + c)) n ≤ 36028797018963968 := fun n hn => gg_b n (fun c hc => hZ c (by omega))
  have H : ∀ (e i n : Nat), i + e = 8 → e < n → wY_shorten_5 post (nI q) fm fr fc tA bA oA w sI vA uA nA xA n (zz_l (zz_gg (fun c => Z (8 * q + c)) i)) (nI i) := by
    intro e
    induction e with
    | zero =>
      intro i n hi hn
      obtain ⟨n, rfl⟩ : ∃ k, n = k + 1 := ⟨n - 1, by omega⟩
      rw [wY_shorten_5]
      have hi8 : i = 8 := by omega
      subst hi8
      have hb := hB 8 (by omega)
      refine pk_le 8 8 (fun _ => ?_) (fun h => by omega)
      by_cases hg : zz_gg (fun c => Z (8 * q + c)) 8 ≤ 1
      · exact br_t ((zz_lle1 (by omega)).mpr (by omega)) (h1 hg)
      · refine br_f (fun z => by have := (zz_lle1 (by omega)).mp z; omega) ⟨9, ?_⟩
        refine yl_sh45 fm fr fc tA bA oA sI vA uA nA xA post Z q _ hq (by omega) hb hZ (h2 (by omega)) 8 0 9 w rfl (by decide) (fun r hr c hc => ?_)
        rw [if_neg (by omega)]; exact hw r hr c hc
    | succ e ih =>
      intro i n hi hn
      obtain ⟨n, rfl⟩ : ∃ k, n = k + 1 := ⟨n - 1, by omega⟩
      rw [wY_shorten_5]
      refine pk_le 8 i (fun h => by omega) (fun h => ?_)
      have c1 : (8 * nI q + nI i).toNatClampNeg = 8 * q + i := by rw [zz_y, nI_clamp (by omega)]
      have v1 : vp_in (8 * nI q + nI i) 32 := by rw [zz_y]; exact vp_in_nI (by omega) (by decide)
      refine ⟨v1, ?_⟩
      rw [c1, hw q hq i h]
      have hb := hB i (by omega)
      refine yw_div _ _ (by omega) (hZ i h) (nm_r (nI_1 i) (ih (i + 1) n (by omega) (by omega)))
  exact ⟨9, H 8 0 9 rfl (by decide)⟩
theorem yl_cl37 (post : SY → Prop) (Y : Nat → Int) (q p j : Nat) (hq : q < 4) (hp4 : p < 4) (hqp : q ≠ p) (hj : j < 8)
    (hp : ∀ w, ya_E w (ys_c Y q p j) → wpY_shorten post (fm, fr, fc, tA, bA, oA, w, sI, vA, uA, nA, xA) (nI q)) :
    ∀ (e i n : Nat) (w : Nat → Int64), i + e = 8 → e < n → (∀ r, r < 4 → ∀ c, c < 8 → w (8 * r + c) = if r = q ∧ c < i then zz_l (ys_c Y q p j (8 * r + c)) else zz_l (Y (8 * r + c))) → wY_clear_37 post (nI q) (nI p) (zz_l (Y (8 * q + j))) (zz_l (Y (8 * p + j))) fm fr fc n (nI i) tA bA oA w sI vA uA nA xA := by
  intro e
  induction e with
  | zero =>
    intro i n w hi hn hw
    obtain ⟨n, rfl⟩ : ∃ k, n = k + 1 := ⟨n - 1, by omega⟩
    rw [wY_clear_37]
    refine pk_le 8 i (fun _ => hp w (fun r hr c hc => ?_)) (fun h => by omega)
    rw [hw r hr c hc]
    by_cases h : r = q
    · rw [if_pos ⟨h, by omega⟩]
    · rw [if_neg (fun z => h z.1), ys_cv _ hc, if_neg h]
  | succ e ih =>
    intro i n w hi hn hw
    obtain ⟨n, rfl⟩ : ∃ k, n = k + 1 := ⟨n - 1, by omega⟩
    rw [wY_clear_37]
    refine pk_le 8 i (fun h => by omega) (fun h => ?_)
    have c1 : (8 * nI q + nI i).toNatClampNeg = 8 * q + i := by rw [zz_y, nI_clamp (by omega)]
    have v1 : vp_in (8 * nI q + nI i) 32 := by rw [zz_y]; exact vp_in_nI (by omega) (by decide)
    have c2 : (8 * nI p + nI i).toNatClampNeg = 8 * p + i := by rw [zz_y, nI_clamp (by omega)]
    have v2 : vp_in (8 * nI p + nI i) 32 := by rw [zz_y]; exact vp_in_nI (by omega) (by decide)
    refine ⟨v1, v2, v1, nm_r (e' := vp_updL w (8 * q + i) (zz_l (ys_c Y q p j (8 * q + i)))) ?_ (nm_r (nI_1 i) (ih (i + 1) n _ (by omega) (by omega) ?_))⟩
    · rw [c1, c2, hw q hq i h, if_neg (by omega), hw p hp4 i h, if_neg (by omega), zz_lmul, zz_lmul, zz_lsub, ys_cv _ h, if_pos rfl]
    · intro r hr c hc
      by_cases hx : r = q ∧ c = i
      · obtain ⟨rfl, rfl⟩ := hx
        rw [pk_uLs, if_pos (by omega)]
      · rw [pk_uLn (by omega), hw r hr c hc]
        by_cases hy : r = q ∧ c < i
        · rw [if_pos hy, if_pos (by omega)]
        · rw [if_neg hy, if_neg (by omega)]
theorem yl_cl (post : SY → Prop) (Y : Nat → Int) (w : Nat → Int64) (q p j : Nat) (hq : q < 4) (hp4 : p < 4) (hqp : q ≠ p) (hj : j < 8) (hw : ya_E w Y) (bq : ∀ c, c < 8 → (Y (8 * q + c)).natAbs ≤ 1944) (bp : ∀ c, c < 8 → (Y (8 * p + c)).natAbs ≤ 1944)
    (h0 : Y (8 * q + j) = 0 → post (fm, fr, fc, tA, bA, oA, w, sI, vA, uA, nA, xA))
    (h1 : Y (8 * q + j) ≠ 0 → zz_gg (fun c => ys_c Y q p j (8 * q + c)) 8 ≤ 1 → ∀ w', ya_E w' (ys_c Y q p j) → post (fm, fr, fc, tA, bA, oA, w', sI, vA, uA, nA, xA))
    (h2 : Y (8 * q + j) ≠ 0 → 1 < zz_gg (fun c => ys_c Y q p j (8 * q + c)) 8 → ∀ w', ya_E w' (ys_d (ys_c Y q p j) q (zz_gg (fun c => ys_c Y q p j (8 * q + c)) 8)) → post (fm, fr, fc, tA, bA, oA, w', sI, vA, uA, nA, xA)) :
    wpY_clear post (fm, fr, fc, tA, bA, oA, w, sI, vA, uA, nA, xA) (nI q) (nI p) (nI j) := by
  have c1 : (8 * nI q + nI j).toNatClampNeg = 8 * q + j := by rw [zz_y, nI_clamp (by omega)]
  have v1 : vp_in (8 * nI q + nI j) 32 := by rw [zz_y]; exact vp_in_nI (by omega) (by decide)
  have c2 : (8 * nI p + nI j).toNatClampNeg = 8 * p + j := by rw [zz_y, nI_clamp (by omega)]
  have v2 : vp_in (8 * nI p + nI j) 32 := by rw [zz_y]; exact vp_in_nI (by omega) (by decide)
  have bz : ∀ c, c < 8 → (ys_c Y q p j (8 * q + c)).natAbs ≤ 36028797018963968 := by
    intro c hc
    rw [ys_cv _ hc, if_pos rfl]
    have b1 := zz_mb (bq c hc) (bp j hj)
    have b2 := zz_mb (bp c hc) (bq j hj)
    omega
  refine ⟨v1, nm_r (e' := zz_l (Y (8 * q + j))) (by rw [c1]; exact hw q hq j hj) ⟨v2, nm_r (e' := zz_l (Y (8 * p + j))) (by rw [c2]; exact hw p hp4 j hj) ?_⟩⟩
  have bj := bq j hj
  by_cases hz : Y (8 * q + j) = 0
  · exact br_t ((zz_le0 (by omega)).mpr hz) (h0 hz)
  · refine br_f (fun z => hz ((zz_le0 (by omega)).mp z)) ⟨9, ?_⟩
    refine yl_cl37 fm fr fc tA bA oA sI vA uA nA xA post Y q p j hq hp4 hqp hj (fun w1 hw1 => ?_) 8 0 9 w rfl (by decide) (fun r hr c hc => by rw [if_neg (by omega)]; exact hw r hr c hc)
    exact yl_sh fm fr fc tA bA oA sI vA uA nA xA post (ys_c Y q p j) q w1 hq hw1 bz (fun hg => h1 hz hg w1 hw1) (fun hg w' hw' => h2 hz hg w' hw')
theorem yl_pk34 (post : Int32 → SY → Prop) (Y : Nat → Int) (s t : Nat) (hs : s < 4) (ht : t < 4) (hp : ∀ w, ya_E w (es_sw Y s t) → post (nI s) (fm, fr, fc, tA, bA, oA, w, sI, vA, uA, nA, xA)) :
    ∀ (d i n : Nat) (w : Nat → Int64), i + d = 8 → d < n → (∀ q, q < 4 → ∀ c, c < 8 → w (8 * q + c) = if c < i then zz_l (es_sw Y s t (8 * q + c)) else zz_l (Y (8 * q + c))) → wY_pick_34 post (nI s) (nI t) fm fr fc n (nI i) tA bA oA w sI vA uA nA xA := by
  intro d
  induction d with
  | zero =>
    intro i n w hi hn hw
    obtain ⟨n, rfl⟩ : ∃ k, n = k + 1 := ⟨n - 1, by omega⟩
    rw [wY_pick_34]
    refine pk_le 8 i (fun _ => hp w (fun q hq c hc => ?_)) (fun h => by omega)
    rw [hw q hq c hc, if_pos (by omega)]
  | succ d ih =>
    intro i n w hi hn hw
    obtain ⟨n, rfl⟩ : ∃ k, n = k + 1 := ⟨n - 1, by omega⟩
    rw [wY_pick_34]
    refine pk_le 8 i (fun h => by omega) (fun h => ?_)
    have c1 : (8 * nI s + nI i).toNatClampNeg = 8 * s + i := by rw [zz_y, nI_clamp (by omega)]
    have c2 : (8 * nI t + nI i).toNatClampNeg = 8 * t + i := by rw [zz_y, nI_clamp (by omega)]
    have v1 : vp_in (8 * nI s + nI i) 32 := by rw [zz_y]; exact vp_in_nI (by omega) (by decide)
    have v2 : vp_in (8 * nI t + nI i) 32 := by rw [zz_y]; exact vp_in_nI (by omega) (by decide)
    refine ⟨v2, nm_r (congrArg w c2) ⟨v1, v2, nm_r (e' := vp_updL w (8 * t + i) (w (8 * s + i))) (by rw [c1, c2]) ⟨v1, nm_r (e' := vp_updL (vp_updL w (8 * t + i) (w (8 * s + i))) (8 * s + i) (w (8 * t + i))) (by rw [c1]) (nm_r (nI_1 i) (ih (i + 1) n _ (by omega) (by omega) ?_))⟩⟩⟩
    intro q hq c hc
    by_cases hci : c = i
    · subst hci
      rw [if_pos (by omega), es_swv _ hc]
      by_cases hqs : q = s
      · subst hqs
        rw [pk_uLs, if_pos rfl, hw t ht c hc, if_neg (by omega)]
      · rw [pk_uLn (by omega), if_neg hqs]
        by_cases hqt : q = t
        · subst hqt
          rw [pk_uLs, if_pos rfl, hw s hs c hc, if_neg (by omega)]
        · rw [pk_uLn (by omega), if_neg hqt, hw q hq c hc, if_neg (by omega)]
    · rw [pk_uLn (by omega), pk_uLn (by omega), hw q hq c hc]
      by_cases hlt : c < i
      · rw [if_pos hlt, if_pos (by omega)]
      · rw [if_neg hlt, if_neg (by omega)]
theorem yl_pk2 (post : Int32 → SY → Prop) (W Y : Nat → Int) (w : Nat → Int64) (m k j S : Nat) (hm : m ≤ 4) (hk : k < 4) (hj : j < 8) (hb : S.testBit j = true) (hw : ya_E w Y) (hR : ∀ q, q < m → ya_R S W Y q) :
    ∀ (d s n : Nat), s + d = m → d < n → (es_pv W j d s < m → ∀ w', ya_E w' (es_sw Y k (es_pv W j d s)) → post (nI k) (nI m, fr, fc, tA, bA, oA, w', sI, vA, uA, nA, xA)) → (¬ es_pv W j d s < m → post (-1) (nI m, fr, fc, tA, bA, oA, w, sI, vA, uA, nA, xA)) → wY_pick_2 post (nI k) (nI j) (nI m) fr fc tA bA oA w sI vA uA nA xA n (nI s) := by
  intro d
  induction d with
  | zero =>
    intro s n hs hn h1 h2
    obtain ⟨n, rfl⟩ : ∃ k, n = k + 1 := ⟨n - 1, by omega⟩
    rw [wY_pick_2]
    exact pk_le m s (fun _ => h2 (by unfold es_pv; omega)) (fun h => by omega)
  | succ d ih =>
    intro s n hs hn h1 h2
    obtain ⟨n, rfl⟩ : ∃ k, n = k + 1 := ⟨n - 1, by omega⟩
    rw [wY_pick_2]
    refine pk_le m s (fun h => by omega) (fun h => pk_le 4 s (fun h' => by omega) (fun h' => ?_))
    rw [zz_y, nI_clamp (by omega), hw s (by omega) j hj]
    refine ⟨vp_in_nI (by omega) (by decide), ?_⟩
    have hz0 := ya_z (hR s h) hj hb
    have bd := (hR s h).2 j hj
    by_cases hz : W (8 * s + j) = 0
    · have e : es_pv W j (d + 1) s = es_pv W j d (s + 1) := if_pos hz
      rw [e] at h1 h2
      exact br_t ((zz_le0 (by omega)).mpr (hz0.mpr hz)) (nm_r (nI_1 s) (ih (s + 1) n (by omega) (by omega) h1 h2))
    · have e : es_pv W j (d + 1) s = s := if_neg hz
      rw [e] at h1
      refine br_f (fun z => hz (hz0.mp ((zz_le0 (by omega)).mp z))) ⟨9, ?_⟩
      exact yl_pk34 (nI m) fr fc tA bA oA sI vA uA nA xA post Y k s hk (by omega) (h1 h) 8 0 9 w rfl (by decide) (fun q hq c hc => by rw [if_neg (by omega)]; exact hw q hq c hc)
end
