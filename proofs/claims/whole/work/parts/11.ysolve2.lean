/-! the reference's elimination: a row cleared, all rows, all columns -/
theorem es_dv {m j : Nat} {e : es_T} (hm : m ≤ 4) (hj : j < 8) (h : es_I m j e) (ht : es_t m j e < m) {q c : Nat} (hq : q < m) (hqk : q ≠ e.2.1) (hc : c < 8) :
    e.2.2.2.2.1 * es_cl (es_sw e.1 e.2.1 (es_t m j e)) m e.2.1 j e.2.2.2.2.1 (8 * q + c) = es_sw e.1 e.2.1 (es_t m j e) (8 * q + c) * es_sw e.1 e.2.1 (es_t m j e) (8 * e.2.1 + j) - es_sw e.1 e.2.1 (es_t m j e) (8 * e.2.1 + c) * es_sw e.1 e.2.1 (es_t m j e) (8 * q + j) := by
  have hb := es_bd hm h
  have h1 := (es_tm (j := j) hb.2.2).1
  obtain ⟨R, hR, hW, hd⟩ := es_I1 hm h ht
  rw [es_clv _ hc, if_pos ⟨hq, hqk⟩, hW q hq c hc, hW q hq j hj, hW _ (by omega) c hc, hW _ (by omega) j hj, el_step R _ j c _ (by omega) q (by omega) hqk, ← hd, Int.mul_tdiv_cancel_left _ hb.2.1]
theorem ya_rc {S : Nat} {W W' Y Y' : Nat → Int} {q : Nat} (h : ya_R S W Y q) (hW : ∀ c, c < 8 → W' (8 * q + c) = W (8 * q + c)) (hY : ∀ c, c < 8 → Y' (8 * q + c) = Y (8 * q + c)) : ya_R S W' Y' q := by
  obtain ⟨⟨α, β, hα, hβ, hh⟩, hb⟩ := h
  refine ⟨⟨α, β, hα, hβ, fun c hc => ?_⟩, fun c hc => by rw [hY c hc]; exact hb c hc⟩
  have := hh c hc
  unfold ya_M at this ⊢
  rw [hW c hc, hY c hc]; exact this
theorem ym_M {S k q j : Nat} {W1 W2 : Nat → Int} {d : Int} (hb : S.testBit j = true) (hM : ∀ c, c < 8 → d * W2 (8 * q + c) = W1 (8 * q + c) * W1 (8 * k + j) - W1 (8 * k + c) * W1 (8 * q + j)) {c : Nat} (hc : c < 8) : d * ya_M S W2 q c = ya_M S W1 q c * ya_M S W1 k j - ya_M S W1 k c * ya_M S W1 q j := by
  unfold ya_M
  rw [if_pos hb, if_pos hb]
  by_cases h : S.testBit c = true
  · rw [if_pos h, if_pos h, if_pos h]; exact hM c hc
  · rw [if_neg h, if_neg h, if_neg h]; grind
theorem ym_0 {S k q j : Nat} {W1 W2 Y : Nat → Int} {d : Int} (hj : j < 8) (hb : S.testBit j = true) (hd : d ≠ 0) (hK : W1 (8 * k + j) ≠ 0) (hM : ∀ c, c < 8 → d * W2 (8 * q + c) = W1 (8 * q + c) * W1 (8 * k + j) - W1 (8 * k + c) * W1 (8 * q + j)) (h : ya_R S W1 Y q) (h0 : Y (8 * q + j) = 0) : ya_R S W2 Y q := by
  have hx := (ya_z h hj hb).mp h0
  obtain ⟨⟨α, β, hα, hβ, hh⟩, hbd⟩ := h
  refine ⟨⟨α * d, β * W1 (8 * k + j), Int.mul_ne_zero hα hd, Int.mul_ne_zero hβ hK, fun c hc => ?_⟩, hbd⟩
  have e := ym_M hb hM hc
  rw [show ya_M S W1 q j = 0 by unfold ya_M; rw [if_pos hb]; exact hx, show ya_M S W1 k j = W1 (8 * k + j) by unfold ya_M; rw [if_pos hb], Int.mul_zero, Int.sub_zero] at e
  rw [Int.mul_assoc, e, ← Int.mul_assoc, hh c hc]
  grind
theorem ym_1 {S k q j : Nat} {W1 W2 Y : Nat → Int} {d : Int} (hj : j < 8) (hb : S.testBit j = true) (hd : d ≠ 0) (hM : ∀ c, c < 8 → d * W2 (8 * q + c) = W1 (8 * q + c) * W1 (8 * k + j) - W1 (8 * k + c) * W1 (8 * q + j)) (hq : ya_R S W1 Y q) (hk : ya_R S W1 Y k) :
    ∃ α β : Int, α ≠ 0 ∧ β ≠ 0 ∧ ∀ c, c < 8 → α * ya_M S W2 q c = β * ys_c Y q k j (8 * q + c) := by
  obtain ⟨⟨α, β, hα, hβ, hh⟩, _⟩ := hq
  obtain ⟨⟨γ, δ, hγ, hδ, gg⟩, _⟩ := hk
  refine ⟨α * γ * d, β * δ, Int.mul_ne_zero (Int.mul_ne_zero hα hγ) hd, Int.mul_ne_zero hβ hδ, fun c hc => ?_⟩
  rw [Int.mul_assoc, ym_M hb hM hc, ys_cv _ hc, if_pos rfl]
  have e2 : α * γ * (ya_M S W1 q c * ya_M S W1 k j - ya_M S W1 k c * ya_M S W1 q j) = (α * ya_M S W1 q c) * (γ * ya_M S W1 k j) - (γ * ya_M S W1 k c) * (α * ya_M S W1 q j) := by grind
  rw [e2, hh c hc, hh j hj, gg c hc, gg j hj]
  grind
theorem ym_2 {S q g : Nat} {W2 Z Y' : Nat → Int} (hb2 : ∀ c, c < 8 → (W2 (8 * q + c)).natAbs ≤ 1944) (hg : g ≠ 0) (hZ : ∀ c, c < 8 → Z (8 * q + c) = g * Y' (8 * q + c)) (hgg : zz_gg (fun c => Y' (8 * q + c)) 8 ≤ 1)
    (h : ∃ α β : Int, α ≠ 0 ∧ β ≠ 0 ∧ ∀ c, c < 8 → α * ya_M S W2 q c = β * Z (8 * q + c)) : ya_R S W2 Y' q := by
  obtain ⟨α, β, hα, hβ, hh⟩ := h
  have hh' : ∀ c, c < 8 → α * ya_M S W2 q c = β * g * Y' (8 * q + c) := fun c hc => by rw [hh c hc, hZ c hc, Int.mul_assoc]
  have hβg : β * (g : Int) ≠ 0 := Int.mul_ne_zero hβ (by omega)
  refine ⟨⟨α, β * g, hα, hβg, hh'⟩, fun c hc => ?_⟩
  by_cases h1 : zz_gg (fun c => Y' (8 * q + c)) 8 = 0
  · have := gg_z h1 hc
    have e : Y' (8 * q + c) = 0 := this
    rw [e]; decide
  · refine Nat.le_trans (gg_p (x := fun c => ya_M S W2 q c) (y := fun c => Y' (8 * q + c)) hα hβg hh' (by omega) hc) ?_
    show (ya_M S W2 q c).natAbs ≤ 1944
    unfold ya_M
    split
    · exact hb2 c hc
    · decide
theorem ym_g {Z : Nat → Int} {q : Nat} (hg : 1 < zz_gg (fun c => Z (8 * q + c)) 8) : (∀ c, c < 8 → Z (8 * q + c) = (zz_gg (fun c => Z (8 * q + c)) 8 : Int) * ys_d Z q (zz_gg (fun c => Z (8 * q + c)) 8) (8 * q + c)) ∧ zz_gg (fun c => ys_d Z q (zz_gg (fun c => Z (8 * q + c)) 8) (8 * q + c)) 8 = 1 := by
  have h1 : ∀ c, c < 8 → Z (8 * q + c) = (zz_gg (fun c => Z (8 * q + c)) 8 : Int) * ys_d Z q (zz_gg (fun c => Z (8 * q + c)) 8) (8 * q + c) := by
    intro c hc
    rw [ys_dv _ hc, if_pos rfl]
    exact (Int.mul_tdiv_cancel' (Int.ofNat_dvd_left.mpr (gg_d (f := fun c => Z (8 * q + c)) 8 c hc))).symm
  refine ⟨h1, ?_⟩
  have h2 := gg_c (f := fun c => Z (8 * q + c)) (g := fun c => (zz_gg (fun c => Z (8 * q + c)) 8 : Int) * ys_d Z q (zz_gg (fun c => Z (8 * q + c)) 8) (8 * q + c)) 8 h1
  rw [gg_m (zz_gg (fun c => Z (8 * q + c)) 8 : Int) (fun c => ys_d Z q (zz_gg (fun c => Z (8 * q + c)) 8) (8 * q + c)) 8] at h2
  rw [Int.natAbs_natCast] at h2
  exact Nat.eq_of_mul_eq_mul_left (by omega : 0 < zz_gg (fun c => Z (8 * q + c)) 8) (by rw [Nat.mul_one]; exact h2.symm)
section
variable (fr fc : Int32) (tA bA oA : Nat → Int32) (sI : Nat → Int32) (vA : Nat → Int64) (uA nA xA : Nat → Int32)
theorem yl_133 (post : Int32 → SY → Prop) (J : Int32 → Int32 → Int32 → Int32 → Int32 → Int32 → Int32 → (Nat → Int32) → (Nat → Int32) → (Nat → Int32) → (Nat → Int64) → (Nat → Int32) → (Nat → Int64) → (Nat → Int32) → (Nat → Int32) → (Nat → Int32) → Prop) (x1 x3 x4 : Int32) (S m k j : Nat) (W1 W2 : Nat → Int) (d : Int) (hm : m ≤ 4) (hkm : k < m) (hj : j < 8) (hb : S.testBit j = true) (hd : d ≠ 0) (hK : W1 (8 * k + j) ≠ 0)
    (hM : ∀ q, q < m → q ≠ k → ∀ c, c < 8 → d * W2 (8 * q + c) = W1 (8 * q + c) * W1 (8 * k + j) - W1 (8 * k + c) * W1 (8 * q + j)) (hk2 : ∀ c, c < 8 → W2 (8 * k + c) = W1 (8 * k + c)) (hb2 : ∀ q, q < m → ∀ c, c < 8 → (W2 (8 * q + c)).natAbs ≤ 1944)
    (hJ : ∀ w Y, ya_E w Y → (∀ q, q < m → ya_R S W2 Y q) → J (nI (k + 1)) x3 x4 (nI (j + 1)) (nI m) fr fc tA bA oA w sI vA uA nA xA) :
    ∀ (e q n : Nat) (w : Nat → Int64) (Y : Nat → Int), q + e = m → e < n → ya_E w Y → (∀ r, r < m → ya_R S (if r < q then W2 else W1) Y r) → wY_solve_133 post J x1 (nI k) x3 x4 (nI j) (nI k) n (nI q) (nI m) fr fc tA bA oA w sI vA uA nA xA := by
  intro e
  induction e with
  | zero =>
    intro q n w Y hq hn hw hR
    obtain ⟨n, rfl⟩ : ∃ k, n = k + 1 := ⟨n - 1, by omega⟩
    rw [wY_solve_133]
    refine pk_le m q (fun _ => nm_r (nI_1 k) (nm_r (nI_1 j) (hJ w Y hw (fun r hr => ?_)))) (fun h => by omega)
    have := hR r hr
    rw [if_pos (by omega)] at this
    exact this
  | succ e ih =>
    intro q n w Y hq hn hw hR
    obtain ⟨n, rfl⟩ : ∃ k, n = k + 1 := ⟨n - 1, by omega⟩
    rw [wY_solve_133]
    have hRk : ya_R S W1 Y k := by
      have := hR k hkm
      by_cases h : k < q
      · rw [if_pos h] at this
        exact ya_rc this (fun c hc => (hk2 c hc).symm) (fun c hc => rfl)
      · rw [if_neg h] at this; exact this
    have hRq : ya_R S W1 Y q := by
      have := hR q (by omega)
      rw [if_neg (by omega)] at this; exact this
    refine pk_le m q (fun h => by omega) (fun h => pk_le 4 q (fun h' => by omega) (fun h' => pk_eq q k (fun hqk => nm_r (nI_1 q) (ih (q + 1) n w Y (by omega) (by omega) hw (fun r hr => ?_))) (fun hqk => ?_)))
    · by_cases hr2 : r = k
      · subst hr2
        rw [if_pos (by omega)]
        exact ya_rc hRk hk2 (fun c hc => rfl)
      · have := hR r hr
        by_cases h1 : r < q
        · rw [if_pos h1] at this; rw [if_pos (by omega)]; exact this
        · rw [if_neg h1] at this; rw [if_neg (by omega)]; exact this
    · have hMq := hM q h hqk
      have hother : ∀ Y' : Nat → Int, (∀ r, r ≠ q → ∀ c, c < 8 → Y' (8 * r + c) = Y (8 * r + c)) → ya_R S W2 Y' q → ∀ r, r < m → ya_R S (if r < q + 1 then W2 else W1) Y' r := by
        intro Y' hY' hq' r hr
        by_cases hrq : r = q
        · subst hrq; rw [if_pos (by omega)]; exact hq'
        · have := ya_rc (hR r hr) (fun c hc => rfl) (hY' r hrq)
          by_cases h1 : r < q
          · rw [if_pos h1] at this; rw [if_pos (by omega)]; exact this
          · rw [if_neg h1] at this; rw [if_neg (by omega)]; exact this
      refine yl_cl (nI m) fr fc tA bA oA sI vA uA nA xA _ Y w q k j (by omega) (by omega) hqk hj hw hRq.2 hRk.2 (fun h0 => ?_) (fun h0 hg w' hw' => ?_) (fun h0 hg w' hw' => ?_)
      · exact nm_r (nI_1 q) (ih (q + 1) n w Y (by omega) (by omega) hw (hother Y (fun r hr c hc => rfl) (ym_0 hj hb hd hK hMq hRq h0)))
      · refine nm_r (nI_1 q) (ih (q + 1) n w' _ (by omega) (by omega) hw' (hother _ (fun r hr c hc => by rw [ys_cv _ hc, if_neg hr]) ?_))
        exact ym_2 (g := 1) (hb2 q h) (by decide) (fun c hc => (Int.one_mul _).symm) hg (ym_1 hj hb hd hMq hRq hRk)
      · obtain ⟨e1, e2⟩ := ym_g hg
        refine nm_r (nI_1 q) (ih (q + 1) n w' _ (by omega) (by omega) hw' (hother _ (fun r hr c hc => by rw [ys_dv _ hc, if_neg hr, ys_cv _ hc, if_neg hr]) ?_))
        exact ym_2 (hb2 q h) (by omega) e1 (by omega) (ym_1 hj hb hd hMq hRq hRk)
theorem yl_73 (post : Int32 → SY → Prop) (m S : Nat) (T : Nat → Int) (hm : m ≤ 4) (hS : S < 256) (hT : ∀ i, (T i).natAbs ≤ 3)
    (h1 : (es_run m S T 8).2.2.1 = 1 → ∀ (w : Nat → Int64) (s : Nat → Int32) (Y : Nat → Int), ya_E w Y → (∀ q, q < m → ya_R S (es_run m S T 8).1 Y q) → (∀ j, j < 8 → (es_P m S T j → s j = nI (es_run m S T j).2.1) ∧ (¬ es_P m S T j → s j = -1)) → post (nI (es_run m S T 8).2.2.2.1) (nI m, fr, fc, tA, bA, oA, w, s, vA, uA, nA, xA))
    (h0 : (es_run m S T 8).2.2.1 ≠ 1 → ∀ (w : Nat → Int64) (s : Nat → Int32), post (-1) (nI m, fr, fc, tA, bA, oA, w, s, vA, uA, nA, xA)) :
    ∀ (e j n : Nat) (x3 : Int32) (w : Nat → Int64) (s : Nat → Int32) (Y : Nat → Int), j + e = 8 → e < n → ya_E w Y → (∀ q, q < m → ya_R S (es_run m S T j).1 Y q) → (∀ i, i < j → (es_P m S T i → s i = nI (es_run m S T i).2.1) ∧ (¬ es_P m S T i → s i = -1)) → (1 ≤ (es_run m S T j).2.2.1 → x3 = nI (es_run m S T j).2.2.2.1) → (es_run m S T j).2.2.1 ≤ j →
      wY_solve_73 post (nI S) n (nI (es_run m S T j).2.1) x3 (nI (es_run m S T j).2.2.1) (nI j) (nI m) fr fc tA bA oA w s vA uA nA xA := by
  intro e
  induction e with
  | zero =>
    intro j n x3 w s Y hj hn hw hR hs hx ho
    obtain ⟨n, rfl⟩ : ∃ k, n = k + 1 := ⟨n - 1, by omega⟩
    have hj8 : j = 8 := by omega
    subst hj8
    rw [wY_solve_73]
    refine pk_le 8 8 (fun _ => pk_eq (es_run m S T 8).2.2.1 1 (fun ho1 => ?_) (fun ho1 => h0 ho1 w s)) (fun h => by omega)
    rw [hx (by omega)]
    exact h1 ho1 w s Y hw hR hs
  | succ e ih =>
    intro j n x3 w s Y hj hn hw hR hs hx ho
    obtain ⟨n, rfl⟩ : ∃ k, n = k + 1 := ⟨n - 1, by omega⟩
    have hI := es_Ir (S := S) hm hT j (by omega)
    obtain ⟨hdb, hd0, hk⟩ := es_bd hm hI
    have hrun : es_run m S T (j + 1) = es_st m S j (es_run m S T j) := rfl
    rw [wY_solve_73]
    refine pk_le 8 j (fun h => by omega) (fun h => ⟨vp_in_nI h (by decide), nm_r (e' := upd s j (-1)) (by rw [nI_clamp (by omega)]) ?_⟩)
    have hs1 : ¬ es_P m S T j → ∀ i, i < j + 1 → (es_P m S T i → upd s j (-1) i = nI (es_run m S T i).2.1) ∧ (¬ es_P m S T i → upd s j (-1) i = -1) := by
      intro hnp i hi
      by_cases hij : i = j
      · subst hij; exact ⟨fun z => absurd z hnp, fun _ => pk_us⟩
      · rw [pk_un hij]; exact hs i (by omega)
    by_cases hb : S.testBit j = true
    · refine yw_i1 _ (by omega) (by omega) hb (br_f (by decide) ⟨m + 1, ?_⟩)
      by_cases hk4 : (es_run m S T j).2.1 < 4
      · refine yl_pk2 fr fc tA bA oA (upd s j (-1)) vA uA nA xA _ (es_run m S T j).1 Y w m (es_run m S T j).2.1 j S hm hk4 h hb hw hR (m - (es_run m S T j).2.1) (es_run m S T j).2.1 (m + 1) (by omega) (by omega) (fun ht w1 hw1 => ?_) (fun ht => ?_)
        · have ht' : es_t m j (es_run m S T j) < m := ht
          obtain ⟨ht1, ht2, ht3, ht4⟩ := es_tm (j := j) hk
          have hP : es_P m S T j := ⟨hb, ht'⟩
          rw [es_b hb ht'] at hrun
          have hI1 := es_Ir (S := S) hm hT (j + 1) (by omega)
          refine br_t (nI_pos' (by omega)) ⟨vp_in_nI h (by decide), nm_r (e' := upd (upd s j (-1)) j (nI (es_run m S T j).2.1)) (by rw [nI_clamp (by omega)]) ⟨m + 1, ?_⟩⟩
          refine yl_133 fr fc tA bA oA _ vA uA nA xA post _ (nI S) x3 _ S m (es_run m S T j).2.1 j (es_sw (es_run m S T j).1 (es_run m S T j).2.1 (es_t m j (es_run m S T j))) (es_run m S T (j + 1)).1 (es_run m S T j).2.2.2.2.1 hm (by omega) h hb hd0 ?_ ?_ ?_ ?_ ?_ m 0 (m + 1) w1 (es_sw Y (es_run m S T j).2.1 (es_t m j (es_run m S T j))) (by omega) (by omega) hw1 ?_
          · rw [es_swv _ h, if_pos rfl]; exact ht4 ht'
          · intro q hq hqk c hc
            rw [hrun]
            exact es_dv hm h hI ht' hq hqk hc
          · intro c hc
            rw [hrun]
            show es_cl _ _ _ _ _ (8 * (es_run m S T j).2.1 + c) = _
            rw [es_clv _ hc, if_neg (by omega)]
          · intro q hq c hc
            exact es_bW hm hI1 hq hc
          · intro w2 Y2 hw2 hR2
            have hkk : (es_run m S T (j + 1)).2.1 = (es_run m S T j).2.1 + 1 := by rw [hrun]
            have hoo : (es_run m S T (j + 1)).2.2.1 = (es_run m S T j).2.2.1 := by rw [hrun]
            have hff : (es_run m S T (j + 1)).2.2.2.1 = (es_run m S T j).2.2.2.1 := by rw [hrun]
            rw [← hkk, ← hoo]
            refine ih (j + 1) n x3 w2 _ Y2 (by omega) (by omega) hw2 hR2 ?_ (by rw [hoo, hff]; exact hx) (by omega)
            intro i hi
            by_cases hij : i = j
            · subst hij; exact ⟨fun _ => pk_us, fun z => absurd hP z⟩
            · rw [pk_un hij, pk_un hij]; exact hs i (by omega)
          · intro r hr
            rw [if_neg (by omega)]
            by_cases hrk : r = (es_run m S T j).2.1
            · have := hR _ ht'
              obtain ⟨⟨α, β, hα, hβ, hh⟩, hbd⟩ := this
              refine ⟨⟨α, β, hα, hβ, fun c hc => ?_⟩, fun c hc => by rw [es_swv _ hc, if_pos hrk]; exact hbd c hc⟩
              have e := hh c hc
              unfold ya_M at e ⊢
              rw [es_swv _ hc, es_swv _ hc, if_pos hrk, if_pos hrk]; exact e
            · by_cases hrt : r = es_t m j (es_run m S T j)
              · have := hR (es_run m S T j).2.1 (by omega)
                obtain ⟨⟨α, β, hα, hβ, hh⟩, hbd⟩ := this
                refine ⟨⟨α, β, hα, hβ, fun c hc => ?_⟩, fun c hc => by rw [es_swv _ hc, if_neg hrk, if_pos hrt]; exact hbd c hc⟩
                have e := hh c hc
                unfold ya_M at e ⊢
                rw [es_swv _ hc, es_swv _ hc, if_neg hrk, if_neg hrk, if_pos hrt, if_pos hrt]; exact e
              · exact ya_rc (hR r hr) (fun c hc => by rw [es_swv _ hc, if_neg hrk, if_neg hrt]) (fun c hc => by rw [es_swv _ hc, if_neg hrk, if_neg hrt])
        · have ht' : ¬ es_t m j (es_run m S T j) < m := ht
          rw [es_c hb ht'] at hrun
          refine br_f (by decide) (nm_r (nI_1 _) (nm_r (nI_1 j) ?_))
          have := ih (j + 1) n (nI j) w (upd s j (-1)) Y (by omega) (by omega) hw (by rw [hrun]; exact hR) (hs1 (fun z => ht' z.2)) (by rw [hrun]; exact fun _ => rfl) (by rw [hrun]; exact Nat.succ_le_succ ho)
          rw [hrun] at this
          exact this
      · have hk4' : (es_run m S T j).2.1 = 4 := by omega
        have hm4 : m = 4 := by omega
        subst hm4
        have ht' : ¬ es_t 4 j (es_run 4 S T j) < 4 := by have := (es_tm (j := j) hk).1; omega
        rw [hk4']
        rw [wY_pick_2]
        refine pk_le 4 4 (fun _ => ?_) (fun h => by omega)
        rw [es_c hb ht'] at hrun
        refine br_f (by decide) (nm_r (nI_1 _) (nm_r (nI_1 j) ?_))
        have := ih (j + 1) n (nI j) w (upd s j (-1)) Y (by omega) (by omega) hw (by rw [hrun]; exact hR) (hs1 (fun z => ht' z.2)) (by rw [hrun]; exact fun _ => rfl) (by rw [hrun]; exact Nat.succ_le_succ ho)
        rw [hrun] at this
        dsimp only at this
        rw [hk4'] at this
        exact this
    · rw [es_a hb] at hrun
      refine yw_i0 _ (by omega) (by omega) hb (br_t rfl (nm_r (nI_1 j) ?_))
      have := ih (j + 1) n x3 w (upd s j (-1)) Y (by omega) (by omega) hw (by rw [hrun]; exact hR) (hs1 (fun z => hb z.1)) (by rw [hrun]; exact hx) (by rw [hrun]; omega)
      rw [hrun] at this
      exact this
theorem yl_9 (post : Int32 → SY → Prop) (J : Int32 → (Nat → Int32) → (Nat → Int32) → (Nat → Int32) → (Nat → Int64) → (Nat → Int32) → (Nat → Int64) → (Nat → Int32) → (Nat → Int32) → (Nat → Int32) → Prop) (fm : Int32) (S r : Nat) (T : Nat → Int) (hS : S < 256) (hr : r < 4) (hT : ∀ i, (T i).natAbs ≤ 3) (hA : ∀ i, i < 32 → tA i = zz_i (T i))
    (hJ : ∀ w, (∀ q, q < r + 1 → ∀ c, c < 8 → w (8 * q + c) = zz_l (ya_M S T q c)) → J (nI (r + 1)) tA bA oA w sI vA uA nA xA) :
    ∀ (e i n : Nat) (w : Nat → Int64), i + e = 8 → e < n → (∀ q, q < 4 → ∀ c, c < 8 → (q < r ∨ (q = r ∧ c < i)) → w (8 * q + c) = zz_l (ya_M S T q c)) → wY_solve_9 post J (nI S) (nI r) fm fr fc n (nI i) tA bA oA w sI vA uA nA xA := by
  intro e
  induction e with
  | zero =>
    intro i n w hi hn hw
    obtain ⟨n, rfl⟩ : ∃ k, n = k + 1 := ⟨n - 1, by omega⟩
    rw [wY_solve_9]
    exact pk_le 8 i (fun _ => nm_r (nI_1 r) (hJ w (fun q hq c hc => hw q (by omega) c hc (by omega)))) (fun h => by omega)
  | succ e ih =>
    intro i n w hi hn hw
    obtain ⟨n, rfl⟩ : ∃ k, n = k + 1 := ⟨n - 1, by omega⟩
    rw [wY_solve_9]
    refine pk_le 8 i (fun h => by omega) (fun h => ?_)
    have c1 : (8 * nI r + nI i).toNatClampNeg = 8 * r + i := by rw [zz_y, nI_clamp (by omega)]
    have v1 : vp_in (8 * nI r + nI i) 32 := by rw [zz_y]; exact vp_in_nI (by omega) (by decide)
    have hn2 : ∀ q, q < 4 → ∀ c, c < 8 → (q < r ∨ (q = r ∧ c < i + 1)) → vp_updL w (8 * r + i) (zz_l (ya_M S T r i)) (8 * q + c) = zz_l (ya_M S T q c) := by
      intro q hq c hc hqc
      by_cases hx : q = r ∧ c = i
      · obtain ⟨rfl, rfl⟩ := hx; exact pk_uLs
      · rw [pk_uLn (by omega)]; exact hw q hq c hc (by omega)
    by_cases hb : S.testBit i = true
    · refine yw_i1 _ (by omega) (by omega) hb (br_f (by decide) ⟨v1, v1, nm_r (e' := vp_updL w (8 * r + i) (zz_l (ya_M S T r i))) ?_ (nm_r (nI_1 i) (ih (i + 1) n _ (by omega) (by omega) hn2))⟩)
      have := hT (8 * r + i)
      rw [c1, hA _ (by omega), zz_il (by omega)]
      unfold ya_M; rw [if_pos hb]
    · refine yw_i0 _ (by omega) (by omega) hb (br_t rfl ⟨v1, nm_r (e' := vp_updL w (8 * r + i) (zz_l (ya_M S T r i))) ?_ (nm_r (nI_1 i) (ih (i + 1) n _ (by omega) (by omega) hn2))⟩)
      rw [c1]
      unfold ya_M; rw [if_neg hb]; rfl
theorem yl_solve (post : Int32 → SY → Prop) (w : Nat → Int64) (m S : Nat) (T : Nat → Int) (hm : m ≤ 4) (hS : S < 256) (hT : ∀ i, (T i).natAbs ≤ 3) (hA : ∀ i, i < 32 → tA i = zz_i (T i))
    (h1 : (es_run m S T 8).2.2.1 = 1 → ∀ (w : Nat → Int64) (s : Nat → Int32) (Y : Nat → Int), ya_E w Y → (∀ q, q < m → ya_R S (es_run m S T 8).1 Y q) → (∀ j, j < 8 → (es_P m S T j → s j = nI (es_run m S T j).2.1) ∧ (¬ es_P m S T j → s j = -1)) → post (nI (es_run m S T 8).2.2.2.1) (nI m, fr, fc, tA, bA, oA, w, s, vA, uA, nA, xA))
    (h0 : (es_run m S T 8).2.2.1 ≠ 1 → ∀ (w : Nat → Int64) (s : Nat → Int32), post (-1) (nI m, fr, fc, tA, bA, oA, w, s, vA, uA, nA, xA)) :
    wpY_solve post (nI m, fr, fc, tA, bA, oA, w, sI, vA, uA, nA, xA) (nI S) := by
  have H : ∀ (e i n : Nat) (w : Nat → Int64), i + e = 4 → e < n → (∀ q, q < i → ∀ c, c < 8 → w (8 * q + c) = zz_l (ya_M S T q c)) → wY_solve_2 post (nI S) (nI m) fr fc n (nI i) tA bA oA w sI vA uA nA xA := by
    intro e
    induction e with
    | zero =>
      intro i n w hi hn hw
      obtain ⟨n, rfl⟩ : ∃ k, n = k + 1 := ⟨n - 1, by omega⟩
      rw [wY_solve_2]
      refine pk_le 4 i (fun _ => ⟨9, ?_⟩) (fun h => by omega)
      refine yl_73 fr fc tA bA oA vA uA nA xA post m S T hm hS hT h1 h0 8 0 9 (-1) w sI (fun i => if S.testBit (i % 8) = true then T i else 0) rfl (by decide) ?_ ?_ (fun i hi => absurd hi (Nat.not_lt_zero _)) (fun h => absurd h (Nat.not_lt_zero _)) (Nat.le_refl _)
      · intro q hq c hc
        rw [hw q (by omega) c hc]
        show _ = zz_l (if S.testBit ((8 * q + c) % 8) = true then _ else _)
        rw [show (8 * q + c) % 8 = c by omega]; rfl
      · intro q hq
        refine ⟨⟨1, 1, by decide, by decide, fun c hc => ?_⟩, fun c hc => ?_⟩
        · show 1 * ya_M S T q c = 1 * (if S.testBit ((8 * q + c) % 8) = true then _ else _)
          rw [show (8 * q + c) % 8 = c by omega]; rfl
        · show (if S.testBit ((8 * q + c) % 8) = true then T (8 * q + c) else 0).natAbs ≤ 1944
          have := hT (8 * q + c)
          split
          · omega
          · decide
    | succ e ih =>
      intro i n w hi hn hw
      obtain ⟨n, rfl⟩ : ∃ k, n = k + 1 := ⟨n - 1, by omega⟩
      rw [wY_solve_2]
      refine pk_le 4 i (fun h => by omega) (fun h => ⟨9, ?_⟩)
      exact yl_9 fr fc tA bA oA sI vA uA nA xA post _ (nI m) S i T hS h hT hA (fun w' hw' => ih (i + 1) n w' (by omega) (by omega) hw') 8 0 9 w rfl (by decide) (fun q hq c hc hqc => hw q (by omega) c hc)
  exact ⟨5, H 4 0 5 w rfl (by decide) (fun q hq => absurd hq (Nat.not_lt_zero _))⟩
end
