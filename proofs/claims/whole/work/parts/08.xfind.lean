/-! the component's findLine -/
theorem zz_bit {S j : Nat} (hS : S < 2 ^ 31) (hj : j < 32) : (nI S >>> (nI j &&& 31)) &&& 1 = nI (S / 2 ^ j % 2) := by
  rw [pk_shrN hS _ j (s_l j hj), pk_andN (Nat.lt_of_le_of_lt (Nat.div_le_self _ _) (Nat.lt_trans hS (by decide))) 1 (by decide)]
theorem zz_bt {S j : Nat} : S.testBit j = true ↔ S / 2 ^ j % 2 = 1 := by
  rw [Nat.testBit_eq_decide_div_mod_eq]; exact decide_eq_true_iff
theorem zz_b1 {S j : Nat} (hS : S < 2 ^ 31) (hj : j < 32) (hb : S.testBit j = true) : (nI S >>> (nI j &&& 31)) &&& 1 = 1 := by
  rw [zz_bit hS hj, zz_bt.mp hb]; rfl
theorem zz_b0 {S j : Nat} (hS : S < 2 ^ 31) (hj : j < 32) (hb : ¬ S.testBit j = true) : (nI S >>> (nI j &&& 31)) &&& 1 = 0 := by
  rw [zz_bit hS hj, (Nat.mod_two_eq_zero_or_one (S / 2 ^ j)).resolve_right (fun z => hb (zz_bt.mpr z))]; rfl
theorem xw_b1 {post : Int32 → Prop} {S j : Nat} (hS : S < 2 ^ 31) (hj : j < 32) (hb : S.testBit j = true) (h : post 1) : wpX_bitOf post (nI S) (nI j) := by
  unfold wpX_bitOf; rw [zz_b1 hS hj hb]; exact h
theorem xw_b0 {post : Int32 → Prop} {S j : Nat} (hS : S < 2 ^ 31) (hj : j < 32) (hb : ¬ S.testBit j = true) (h : post 0) : wpX_bitOf post (nI S) (nI j) := by
  unfold wpX_bitOf; rw [zz_b0 hS hj hb]; exact h
def es_ok (m S : Nat) (T : Nat → Int) : Prop := (es_run m S T 8).2.2.1 = 1 ∧ ∀ j, j < 8 → S.testBit j = true → es_v m S T j ≠ 0
theorem es_okP {m S : Nat} {T : Nat → Int} (hm : m ≤ 4) (hT : ∀ i, (T i).natAbs ≤ 3) (ho : (es_run m S T 8).2.2.1 = 1) (h : ∀ j, j < 8 → es_P m S T j → es_v m S T j ≠ 0) : es_ok m S T := by
  refine ⟨ho, fun j hj hb => ?_⟩
  by_cases hp : es_P m S T j
  · exact h j hj hp
  · rw [es_vN hp, if_pos ((es_on hb hp 8 hj).2 ho).symm]
    exact (es_bd hm (es_Ir (S := S) hm hT 8 (Nat.le_refl _))).2.1
theorem es_hi {m S r : Nat} {T : Nat → Int} (h : ∀ j, r ≤ j → ¬ S.testBit j = true) : ∀ i, es_run m S T (r + i) = es_run m S T r := by
  intro i
  induction i with
  | zero => rfl
  | succ i ih =>
    show es_st m S (r + i) (es_run m S T (r + i)) = _
    rw [es_a (h _ (by omega)), ih]
theorem es_hi8 {m S r : Nat} {T : Nat → Int} (hr : r ≤ 8) (h : ∀ j, r ≤ j → ¬ S.testBit j = true) : es_run m S T r = es_run m S T 8 := by
  have := es_hi (m := m) (T := T) h (8 - r)
  rw [← this, show r + (8 - r) = 8 by omega]
theorem xl_rd34 (post : Int32 → SX → Prop) (fr ft fo fc : Int32) (tA sA xA w pA : Nat → Int32) (m S : Nat) (T : Nat → Int) (hm : m ≤ 4) (hT : ∀ i, (T i).natAbs ≤ 3) (ho : 1 ≤ (es_run m S T 8).2.2.1)
    (hw : xa_E w (es_run m S T 8).1) (hpA : ∀ i, i < (es_run m S T 8).2.1 → pA i = nI ((es_run m S T 8).2.2.2.2.2 i))
    (h1 : (∀ j, j < 8 → es_P m S T j → es_v m S T j ≠ 0) → ∀ c : Nat → Int32, (∀ j, j < 8 → c j = zz_i (es_v m S T j)) → post 1 (nI m, fr, ft, fo, fc, tA, sA, xA, w, pA, c))
    (h0 : (¬ ∀ j, j < 8 → es_P m S T j → es_v m S T j ≠ 0) → ∀ c : Nat → Int32, post 0 (nI m, fr, ft, fo, fc, tA, sA, xA, w, pA, c)) :
    ∀ (e i n : Nat) (c : Nat → Int32), i + e = (es_run m S T 8).2.1 → e < n → (∀ j, j < 8 → (es_P m S T j → (es_run m S T j).2.1 < i) → c j = zz_i (es_v m S T j)) → (∀ j, j < 8 → es_P m S T j → (es_run m S T j).2.1 < i → es_v m S T j ≠ 0) →
      wX_readLine_34 post (nI (es_run m S T 8).2.1) (nI (es_run m S T 8).2.2.2.1) (nI m) fr ft fo fc n (nI i) tA sA xA w pA c := by
  have hI := es_Ir (S := S) hm hT 8 (Nat.le_refl _)
  have hk := (es_bd hm hI).2.2
  have hf := (es_of 8 ho).1
  intro e
  induction e with
  | zero =>
    intro i n c hi hn hc hz
    obtain ⟨n, rfl⟩ : ∃ k, n = k + 1 := ⟨n - 1, by omega⟩
    rw [wX_readLine_34]
    refine pk_le (es_run m S T 8).2.1 i (fun _ => h1 (fun j hj hp => hz j hj hp ?_) c (fun j hj => hc j hj (fun hp => ?_))) (fun h => by omega)
    · have := es_kl hp hj; omega
    · have := es_kl hp hj; omega
  | succ e ih =>
    intro i n c hi hn hc hz
    obtain ⟨n, rfl⟩ : ∃ k, n = k + 1 := ⟨n - 1, by omega⟩
    rw [wX_readLine_34]
    refine pk_le (es_run m S T 8).2.1 i (fun h => by omega) (fun h => ?_)
    obtain ⟨j, hj, hP, hkj⟩ := es_ex 8 h
    have hpf := es_pf hP 8 hj
    rw [hkj] at hpf
    have c1 : (nI i * 8 + nI (es_run m S T 8).2.2.2.1).toNatClampNeg = 8 * i + (es_run m S T 8).2.2.2.1 := by rw [zz_x, nI_clamp (by omega)]
    have v1 : vp_in (nI i * 8 + nI (es_run m S T 8).2.2.2.1) 32 := by rw [zz_x]; exact vp_in_nI (by omega) (by decide)
    have ev : es_v m S T j = -(es_run m S T 8).1 (8 * i + (es_run m S T 8).2.2.2.1) := by rw [es_vP hP, hkj]
    have bv := es_vb hm hT ho hj
    have cj : pA (nI i).toNatClampNeg = nI j := by rw [nI_clamp (by omega), hpA i h, hpf]
    refine ⟨v1, nm_r (e' := zz_i (es_v m S T j)) (by rw [c1, hw i (by omega) _ hf, zz_ineg, ev]) ?_⟩
    by_cases hv : es_v m S T j = 0
    · exact br_t ((zz_ie0 (by omega)).mpr hv) (h0 (fun z => z j hj hP hv) c)
    · refine br_f (fun z => hv ((zz_ie0 (by omega)).mp z)) ⟨vp_in_nI (by omega) (by decide), ?_⟩
      rw [cj]
      refine ⟨vp_in_nI hj (by decide), nm_r (e' := upd c j (zz_i (es_v m S T j))) (by rw [nI_clamp (by omega)]) (nm_r (nI_1 i) (ih (i + 1) n _ (by omega) (by omega) ?_ ?_))⟩
      · intro j' hj' hc'
        by_cases hjj : j' = j
        · rw [hjj, pk_us]
        · rw [pk_un hjj]
          refine hc j' hj' (fun hp' => ?_)
          have h2 := hc' hp'
          by_cases hki : (es_run m S T j').2.1 = i
          · have := es_pf hp' 8 hj'
            rw [hki, hpf] at this
            exact absurd this.symm hjj
          · omega
      · intro j' hj' hp' hk'
        by_cases hki : (es_run m S T j').2.1 = i
        · have := es_pf hp' 8 hj'
          rw [hki, hpf] at this
          rw [← this]; exact hv
        · exact hz j' hj' hp' (by omega)
theorem xl_rd (post : Int32 → SX → Prop) (fr ft fo fc : Int32) (tA sA xA w pA cA : Nat → Int32) (m S : Nat) (T : Nat → Int) (hm : m ≤ 4) (hT : ∀ i, (T i).natAbs ≤ 3) (ho : 1 ≤ (es_run m S T 8).2.2.1)
    (hw : xa_E w (es_run m S T 8).1) (hpA : ∀ i, i < (es_run m S T 8).2.1 → pA i = nI ((es_run m S T 8).2.2.2.2.2 i))
    (h1 : (∀ j, j < 8 → es_P m S T j → es_v m S T j ≠ 0) → ∀ c : Nat → Int32, (∀ j, j < 8 → c j = zz_i (es_v m S T j)) → post 1 (nI m, fr, ft, fo, fc, tA, sA, xA, w, pA, c))
    (h0 : (¬ ∀ j, j < 8 → es_P m S T j → es_v m S T j ≠ 0) → ∀ c : Nat → Int32, post 0 (nI m, fr, ft, fo, fc, tA, sA, xA, w, pA, c)) :
    wpX_readLine post (nI m, fr, ft, fo, fc, tA, sA, xA, w, pA, cA) (nI (es_run m S T 8).2.1) (nI (es_run m S T 8).2.2.2.1) (zz_i (es_run m S T 8).2.2.2.2.1) := by
  have hf := es_of 8 ho
  refine ⟨9, ?_⟩
  have H : ∀ (e i n : Nat) (c : Nat → Int32), i + e = 8 → e < n → (∀ j, j < i → c j = 0) → wX_readLine_3 post (nI (es_run m S T 8).2.1) (nI (es_run m S T 8).2.2.2.1) (zz_i (es_run m S T 8).2.2.2.2.1) (nI m) fr ft fo fc n (nI i) tA sA xA w pA c := by
    intro e
    induction e with
    | zero =>
      intro i n c hi hn hc
      obtain ⟨n, rfl⟩ : ∃ k, n = k + 1 := ⟨n - 1, by omega⟩
      rw [wX_readLine_3]
      refine pk_le 8 i (fun _ => ⟨vp_in_nI hf.1 (by decide), nm_r (e' := upd c (es_run m S T 8).2.2.2.1 (zz_i (es_run m S T 8).2.2.2.2.1)) (by rw [nI_clamp (by omega)]) ⟨(es_run m S T 8).2.1 + 1, ?_⟩⟩) (fun h => by omega)
      refine xl_rd34 post fr ft fo fc tA sA xA w pA m S T hm hT ho hw hpA h1 h0 _ 0 _ _ (Nat.zero_add _) (Nat.lt_succ_self _) ?_ (fun j hj hp hk => absurd hk (Nat.not_lt_zero _))
      intro j hj hc'
      have hp : ¬ es_P m S T j := fun z => absurd (hc' z) (Nat.not_lt_zero _)
      rw [es_vN hp]
      by_cases hjf : j = (es_run m S T 8).2.2.2.1
      · rw [if_pos hjf, hjf, pk_us]
      · rw [if_neg hjf, pk_un hjf, hc j (by omega)]; rfl
    | succ e ih =>
      intro i n c hi hn hc
      obtain ⟨n, rfl⟩ : ∃ k, n = k + 1 := ⟨n - 1, by omega⟩
      rw [wX_readLine_3]
      refine pk_le 8 i (fun h => by omega) (fun h => ⟨vp_in_nI h (by decide), nm_r (e' := upd c i 0) (by rw [nI_clamp (by omega)]) (nm_r (nI_1 i) (ih (i + 1) n _ (by omega) (by omega) ?_))⟩)
      intro j hj
      by_cases hji : j = i
      · rw [hji, pk_us]
      · rw [pk_un hji]; exact hc j (by omega)
  exact H 8 0 9 cA rfl (by decide) (fun j hj => absurd hj (Nat.not_lt_zero _))
theorem xl_f14 (post : Int32 → SX → Prop) (ft fo fc : Int32) (tA sA xA : Nat → Int32) (m r S : Nat) (T : Nat → Int) (hm : m ≤ 4) (hr : r ≤ 8) (hS : S < 256) (hSr : ∀ j, r ≤ j → ¬ S.testBit j = true) (hT : ∀ i, (T i).natAbs ≤ 3)
    (h1 : es_ok m S T → ∀ w p c : Nat → Int32, (∀ j, j < 8 → c j = zz_i (es_v m S T j)) → post 1 (nI m, nI r, ft, fo, fc, tA, sA, xA, w, p, c))
    (h0 : ¬ es_ok m S T → ∀ w p c : Nat → Int32, post 0 (nI m, nI r, ft, fo, fc, tA, sA, xA, w, p, c)) :
    ∀ (e j n : Nat) (x3 : Int32) (w p c : Nat → Int32), j + e = r → e < n → xa_E w (es_run m S T j).1 → (∀ i, i < (es_run m S T j).2.1 → p i = nI ((es_run m S T j).2.2.2.2.2 i)) → (((es_run m S T j).2.2.1 = 0 ∧ x3 = -1) ∨ ((es_run m S T j).2.2.1 = 1 ∧ x3 = nI (es_run m S T j).2.2.2.1)) →
      wX_findLine_14 post (nI S) n (nI (es_run m S T j).2.1) x3 (zz_i (es_run m S T j).2.2.2.2.1) (nI j) (nI m) (nI r) ft fo fc tA sA xA w p c := by
  intro e
  induction e with
  | zero =>
    intro j n x3 w p c hj hn hw hp hx
    obtain ⟨n, rfl⟩ : ∃ k, n = k + 1 := ⟨n - 1, by omega⟩
    have hjr : j = r := by omega
    subst hjr
    have e8 := es_hi8 (m := m) (T := T) hr hSr
    rw [e8] at hw hp hx
    rw [wX_findLine_14]
    refine pk_le j j (fun _ => ?_) (fun h => by omega)
    rcases hx with ⟨ho, rfl⟩ | ⟨ho, rfl⟩
    · exact br_t (by decide) (h0 (fun z => by have := z.1; omega) w p c)
    · have hf := es_of (m := m) (S := S) (T := T) 8 (by omega)
      refine br_f (nI_pos (by omega)) ?_
      rw [e8]
      refine xl_rd _ (nI j) ft fo fc tA sA xA w p c m S T hm hT (by omega) hw hp (fun hz c' hc' => ?_) (fun hz c' => ?_)
      · exact br_f (by decide) (h1 (es_okP hm hT ho hz) w p c' hc')
      · exact br_t rfl (h0 (fun z => hz (fun j' hj' hp' => z.2 j' hj' hp'.1)) w p c')
  | succ e ih =>
    intro j n x3 w p c hj hn hw hp hx
    obtain ⟨n, rfl⟩ : ∃ k, n = k + 1 := ⟨n - 1, by omega⟩
    have hI := es_Ir (S := S) hm hT j (by omega)
    obtain ⟨hdb, hd0, hk⟩ := es_bd hm hI
    rw [wX_findLine_14]
    refine pk_le r j (fun h => by omega) (fun h => ?_)
    have hrun : es_run m S T (j + 1) = es_st m S j (es_run m S T j) := rfl
    by_cases hb : S.testBit j = true
    · refine xw_b1 (by omega) (by omega) hb (br_f (by decide) ⟨m + 1, ?_⟩)
      refine xl_pivot _ (nI r) ft fo fc tA sA xA w p c (es_run m S T j).1 m j hm (by omega) hw (fun q hq => es_bW hm hI hq (by omega)) (m - (es_run m S T j).2.1) _ (m + 1) (by omega) (by omega) (fun ht => ?_) (fun ht => ?_)
      · have ht' : es_t m j (es_run m S T j) < m := ht
        have hkt : (es_run m S T j).2.1 ≤ es_t m j (es_run m S T j) := (es_tm hk).1
        rw [es_b hb ht'] at hrun
        refine br_f (nI_pos (by omega)) ⟨9, ?_⟩
        refine xl_swap _ (nI m) (nI r) ft fo fc tA sA xA p c (es_run m S T j).1 (es_run m S T j).2.1 (es_t m j (es_run m S T j)) (by omega) (by omega) (fun w1 hw1 => ?_) 8 0 9 w rfl (by decide) (fun q hq c hc => by rw [if_neg (by omega)]; exact hw q hq c hc)
        have c1 : (nI (es_run m S T j).2.1 * 8 + nI j).toNatClampNeg = 8 * (es_run m S T j).2.1 + j := by rw [zz_x, nI_clamp (by omega)]
        have v1 : vp_in (nI (es_run m S T j).2.1 * 8 + nI j) 32 := by rw [zz_x]; exact vp_in_nI (by omega) (by decide)
        refine ⟨v1, nm_r (e' := zz_i (es_sw (es_run m S T j).1 (es_run m S T j).2.1 (es_t m j (es_run m S T j)) (8 * (es_run m S T j).2.1 + j))) (by rw [c1]; exact hw1 _ (by omega) j (by omega)) ⟨m + 1, ?_⟩⟩
        refine xl_cl16 _ (nI r) ft fo fc tA sA xA p c (es_sw (es_run m S T j).1 (es_run m S T j).2.1 (es_t m j (es_run m S T j))) m (es_run m S T j).2.1 j (es_run m S T j).2.2.2.2.1 hm (by omega) (by omega) hd0 hdb (fun q hq c hc => es_bW1 hm hI ht' hq hc) (fun w2 hw2 => ?_) m 0 (m + 1) w1 (by omega) (by omega) (fun q hq c hc => by rw [if_neg (by omega)]; exact hw1 q hq c hc)
        have hdd : w2 (8 * (es_run m S T j).2.1 + j) = zz_i (es_run m S T (j + 1)).2.2.2.2.1 := by
          rw [hw2 _ (by omega) j (by omega), hrun, es_clv _ (by omega), if_neg (by omega)]
        have hkk : (es_run m S T (j + 1)).2.1 = (es_run m S T j).2.1 + 1 := by rw [hrun]
        refine ⟨v1, nm_r (e' := zz_i (es_run m S T (j + 1)).2.2.2.2.1) (by rw [c1]; exact hdd) ⟨vp_in_nI (by omega) (by decide), nm_r (e' := upd p (es_run m S T j).2.1 (nI j)) (by rw [nI_clamp (by omega)]) (nm_r (e' := nI (es_run m S T (j + 1)).2.1) (by rw [hkk, nI_1]) (nm_r (nI_1 j) (ih (j + 1) n x3 w2 _ c (by omega) (by omega) ?_ ?_ ?_)))⟩⟩
        · rw [hrun]; exact hw2
        · rw [hrun]
          intro i hi
          show upd p (es_run m S T j).2.1 (nI j) i = nI (if i = (es_run m S T j).2.1 then j else (es_run m S T j).2.2.2.2.2 i)
          by_cases hik : i = (es_run m S T j).2.1
          · rw [if_pos hik, hik, pk_us]
          · rw [if_neg hik, pk_un hik]
            exact hp i (by have : i < (es_run m S T j).2.1 + 1 := hi; omega)
        · rw [hrun]; exact hx
      · have ht' : ¬ es_t m j (es_run m S T j) < m := ht
        rw [es_c hb ht'] at hrun
        refine br_t (by decide) ?_
        rcases hx with ⟨ho, rfl⟩ | ⟨ho, rfl⟩
        · refine br_f (by decide) (nm_r (nI_1 j) ?_)
          have := ih (j + 1) n (nI j) w p c (by omega) (by omega) (by rw [hrun]; exact hw) (by rw [hrun]; exact hp) (by rw [hrun]; exact Or.inr ⟨by show (es_run m S T j).2.2.1 + 1 = 1; omega, rfl⟩)
          rw [hrun] at this
          exact this
        · refine br_t (nI_pos' (by have := es_of (m := m) (S := S) (T := T) j (by omega); omega)) (h0 (fun z => ?_) w p c)
          have h2 := (es_km (m := m) (S := S) (T := T) (j := j + 1) 8 (by omega)).2
          rw [hrun] at h2
          have h3 : (es_run m S T j).2.2.1 + 1 ≤ (es_run m S T 8).2.2.1 := h2
          have := z.1
          omega
    · rw [es_a hb] at hrun
      refine xw_b0 (by omega) (by omega) hb (br_t rfl (nm_r (nI_1 j) ?_))
      have := ih (j + 1) n x3 w p c (by omega) (by omega) (by rw [hrun]; exact hw) (by rw [hrun]; exact hp) (by rw [hrun]; exact hx)
      rw [hrun] at this
      exact this
theorem xl_find (post : Int32 → SX → Prop) (ft fo fc : Int32) (tA sA xA w p c : Nat → Int32) (m r S : Nat) (T : Nat → Int) (hm : m ≤ 4) (hr : r ≤ 8) (hS : S < 256) (hSr : ∀ j, r ≤ j → ¬ S.testBit j = true) (hT : ∀ i, (T i).natAbs ≤ 3) (hA : ∀ i, i < 32 → tA i = zz_i (T i))
    (h1 : es_ok m S T → ∀ w p c : Nat → Int32, (∀ j, j < 8 → c j = zz_i (es_v m S T j)) → post 1 (nI m, nI r, ft, fo, fc, tA, sA, xA, w, p, c))
    (h0 : ¬ es_ok m S T → ∀ w p c : Nat → Int32, post 0 (nI m, nI r, ft, fo, fc, tA, sA, xA, w, p, c)) :
    wpX_findLine post (nI m, nI r, ft, fo, fc, tA, sA, xA, w, p, c) (nI S) := by
  refine ⟨33, xl_copy _ (nI m) (nI r) ft fo fc tA sA xA p c T hA (fun w' hw' => ⟨r + 1, ?_⟩) 32 0 33 w rfl (by decide) (fun q hq => absurd hq (Nat.not_lt_zero _))⟩
  exact xl_f14 post ft fo fc tA sA xA m r S T hm hr hS hSr hT h1 h0 r 0 (r + 1) (-1) w' p c (by omega) (by omega) (fun q hq c hc => hw' _ (by omega)) (fun i hi => absurd hi (Nat.not_lt_zero _)) (Or.inl ⟨rfl, rfl⟩)
