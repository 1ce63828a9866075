/-! the component's elimination -/
def xa_E (a : Nat → Int32) (E : Nat → Int) : Prop := ∀ q, q < 4 → ∀ c, c < 8 → a (8 * q + c) = zz_i (E (8 * q + c))
theorem xl_copy (post : SX → Prop) (fm fr ft fo fc : Int32) (tA sA xA pA cA : Nat → Int32) (E : Nat → Int) (hT : ∀ i, i < 32 → tA i = zz_i (E i)) (hp : ∀ w, (∀ i, i < 32 → w i = zz_i (E i)) → post (fm, fr, ft, fo, fc, tA, sA, xA, w, pA, cA)) :
    ∀ (d i n : Nat) (w : Nat → Int32), i + d = 32 → d < n → (∀ q, q < i → w q = zz_i (E q)) → wX_copyTable_2 post fm fr ft fo fc n (nI i) tA sA xA w pA cA := by
  intro d
  induction d with
  | zero =>
    intro i n w hi hn hw
    obtain ⟨n, rfl⟩ : ∃ k, n = k + 1 := ⟨n - 1, by omega⟩
    rw [wX_copyTable_2]
    refine pk_le 32 i (fun _ => hp w (fun q hq => hw q (by omega))) (fun h => by omega)
  | succ d ih =>
    intro i n w hi hn hw
    obtain ⟨n, rfl⟩ : ∃ k, n = k + 1 := ⟨n - 1, by omega⟩
    rw [wX_copyTable_2]
    refine pk_le 32 i (fun h => by omega) (fun h => ⟨vp_in_nI h (by decide), vp_in_nI h (by decide), nm_r (e' := upd w i (tA i)) (by rw [nI_clamp (by omega)]) (nm_r (nI_1 i) (ih (i + 1) n _ (by omega) (by omega) ?_))⟩)
    intro q hq
    by_cases hqi : q = i
    · rw [hqi, pk_us]; exact hT i h
    · rw [pk_un hqi]; exact hw q (by omega)
theorem xl_pivot (post : Int32 → Prop) (fr ft fo fc : Int32) (tA sA xA w pA cA : Nat → Int32) (E : Nat → Int) (m j : Nat) (hm : m ≤ 4) (hj : j < 8) (hw : xa_E w E) (hb : ∀ q, q < m → (E (8 * q + j)).natAbs ≤ 1944) :
    ∀ (d s n : Nat), s + d = m → d < n → (es_pv E j d s < m → post (nI (es_pv E j d s))) → (¬ es_pv E j d s < m → post (-1)) → wX_pivotRow_2 post (nI j) (nI m) fr ft fo fc tA sA xA w pA cA n (nI s) := by
  intro d
  induction d with
  | zero =>
    intro s n hs hn h1 h2
    obtain ⟨n, rfl⟩ : ∃ k, n = k + 1 := ⟨n - 1, by omega⟩
    rw [wX_pivotRow_2]
    exact pk_le m s (fun _ => h2 (by unfold es_pv; omega)) (fun h => by omega)
  | succ d ih =>
    intro s n hs hn h1 h2
    obtain ⟨n, rfl⟩ : ∃ k, n = k + 1 := ⟨n - 1, by omega⟩
    rw [wX_pivotRow_2]
    refine pk_le m s (fun h => by omega) (fun h => ?_)
    rw [zz_x, nI_clamp (by omega), hw s (by omega) j hj]
    refine ⟨vp_in_nI (by omega) (by decide), ?_⟩
    by_cases hz : E (8 * s + j) = 0
    · have e : es_pv E j (d + 1) s = es_pv E j d (s + 1) := if_pos hz
      rw [e] at h1 h2
      exact br_t ((zz_ie0 (by have := hb s h; omega)).mpr hz) (nm_r (nI_1 s) (ih (s + 1) n (by omega) (by omega) h1 h2))
    · have e : es_pv E j (d + 1) s = s := if_neg hz
      rw [e] at h1
      exact br_f (fun z => hz ((zz_ie0 (by have := hb s h; omega)).mp z)) (h1 h)
theorem xl_swap (post : SX → Prop) (fm fr ft fo fc : Int32) (tA sA xA pA cA : Nat → Int32) (E : Nat → Int) (s t : Nat) (hs : s < 4) (ht : t < 4) (hp : ∀ w, xa_E w (es_sw E s t) → post (fm, fr, ft, fo, fc, tA, sA, xA, w, pA, cA)) :
    ∀ (d i n : Nat) (w : Nat → Int32), i + d = 8 → d < n → (∀ q, q < 4 → ∀ c, c < 8 → w (8 * q + c) = if c < i then zz_i (es_sw E s t (8 * q + c)) else zz_i (E (8 * q + c))) → wX_swapRows_2 post (nI s) (nI t) fm fr ft fo fc n (nI i) tA sA xA w pA cA := by
  intro d
  induction d with
  | zero =>
    intro i n w hi hn hw
    obtain ⟨n, rfl⟩ : ∃ k, n = k + 1 := ⟨n - 1, by omega⟩
    rw [wX_swapRows_2]
    refine pk_le 8 i (fun _ => hp w (fun q hq c hc => ?_)) (fun h => by omega)
    rw [hw q hq c hc, if_pos (by omega)]
  | succ d ih =>
    intro i n w hi hn hw
    obtain ⟨n, rfl⟩ : ∃ k, n = k + 1 := ⟨n - 1, by omega⟩
    rw [wX_swapRows_2]
    refine pk_le 8 i (fun h => by omega) (fun h => ?_)
    have c1 : (nI s * 8 + nI i).toNatClampNeg = 8 * s + i := by rw [zz_x, nI_clamp (by omega)]
    have c2 : (nI t * 8 + nI i).toNatClampNeg = 8 * t + i := by rw [zz_x, nI_clamp (by omega)]
    have v1 : vp_in (nI s * 8 + nI i) 32 := by rw [zz_x]; exact vp_in_nI (by omega) (by decide)
    have v2 : vp_in (nI t * 8 + nI i) 32 := by rw [zz_x]; exact vp_in_nI (by omega) (by decide)
    refine ⟨v1, nm_r (congrArg w c1) ⟨v2, v1, nm_r (e' := upd w (8 * s + i) (w (8 * t + i))) (by rw [c1, c2]) ⟨v2, nm_r (e' := upd (upd w (8 * s + i) (w (8 * t + i))) (8 * t + i) (w (8 * s + i))) (by rw [c2]) (nm_r (nI_1 i) (ih (i + 1) n _ (by omega) (by omega) ?_))⟩⟩⟩
    intro q hq c hc
    by_cases hci : c = i
    · subst hci
      rw [if_pos (by omega), es_swv _ hc]
      by_cases hqt : q = t
      · subst hqt
        rw [pk_us, hw s hs c hc, if_neg (by omega)]
        by_cases hqs : q = s
        · rw [if_pos hqs, hqs]
        · rw [if_neg hqs, if_pos rfl]
      · rw [pk_un (by omega)]
        by_cases hqs : q = s
        · subst hqs
          rw [pk_us, if_pos rfl, hw t ht c hc, if_neg (by omega)]
        · rw [pk_un (by omega), if_neg hqs, if_neg hqt, hw q hq c hc, if_neg (by omega)]
    · rw [pk_un (by omega), pk_un (by omega), hw q hq c hc]
      by_cases hlt : c < i
      · rw [if_pos hlt, if_pos (by omega)]
      · rw [if_neg hlt, if_neg (by omega)]
theorem xl_cl51 (post : SX → Prop) (J : Int32 → (Nat → Int32) → (Nat → Int32) → (Nat → Int32) → (Nat → Int32) → (Nat → Int32) → (Nat → Int32) → Prop) (fr ft fo fc : Int32) (tA sA xA pA cA : Nat → Int32) (E : Nat → Int) (m k j r : Nat) (x2 : Int32) (d : Int) (hm : m ≤ 4) (hk : k < m) (hj : j < 8) (hr : r < m) (hrk : r ≠ k) (hd : d ≠ 0) (hdb : d.natAbs ≤ 1944) (hb : ∀ q, q < m → ∀ c, c < 8 → (E (8 * q + c)).natAbs ≤ 1944)
    (hJ : ∀ w, (∀ q, q < 4 → ∀ c, c < 8 → w (8 * q + c) = if q < r + 1 then zz_i (es_cl E m k j d (8 * q + c)) else zz_i (E (8 * q + c))) → J (nI (r + 1)) tA sA xA w pA cA) :
    ∀ (e i n : Nat) (w : Nat → Int32), i + e = 8 → e < n → (∀ q, q < 4 → ∀ c, c < 8 → w (8 * q + c) = if q < r ∨ (q = r ∧ c < i) then zz_i (es_cl E m k j d (8 * q + c)) else zz_i (E (8 * q + c))) → wX_clearColumn_51 post J (nI k) x2 (zz_i d) (zz_i (E (8 * k + j))) (nI r) (zz_i (E (8 * r + j))) (nI m) fr ft fo fc n (nI i) tA sA xA w pA cA := by
  intro e
  induction e with
  | zero =>
    intro i n w hi hn hw
    obtain ⟨n, rfl⟩ : ∃ k, n = k + 1 := ⟨n - 1, by omega⟩
    rw [wX_clearColumn_51]
    refine pk_le 8 i (fun _ => nm_r (nI_1 r) (hJ w (fun q hq c hc => ?_))) (fun h => by omega)
    rw [hw q hq c hc]
    by_cases h : q < r + 1
    · rw [if_pos h, if_pos (by omega)]
    · rw [if_neg h, if_neg (by omega)]
  | succ e ih =>
    intro i n w hi hn hw
    obtain ⟨n, rfl⟩ : ∃ k, n = k + 1 := ⟨n - 1, by omega⟩
    rw [wX_clearColumn_51]
    refine pk_le 8 i (fun h => by omega) (fun h => ?_)
    have c1 : (nI r * 8 + nI i).toNatClampNeg = 8 * r + i := by rw [zz_x, nI_clamp (by omega)]
    have c2 : (nI k * 8 + nI i).toNatClampNeg = 8 * k + i := by rw [zz_x, nI_clamp (by omega)]
    have v1 : vp_in (nI r * 8 + nI i) 32 := by rw [zz_x]; exact vp_in_nI (by omega) (by decide)
    have v2 : vp_in (nI k * 8 + nI i) 32 := by rw [zz_x]; exact vp_in_nI (by omega) (by decide)
    have e1 : w (8 * r + i) = zz_i (E (8 * r + i)) := by rw [hw r (by omega) i h, if_neg (by omega)]
    have e2 : w (8 * k + i) = zz_i (E (8 * k + i)) := by
      rw [hw k (by omega) i h]
      by_cases hh : k < r ∨ (k = r ∧ i < i)
      · rw [if_pos hh, es_clv _ h, if_neg (by omega)]
      · rw [if_neg hh]
    have b1 := zz_mb (hb r hr i h) (hb k hk j hj)
    have b2 := zz_mb (hb k hk i h) (hb r hr j hj)
    have hd' : ¬ zz_i d = 0 := fun z => hd ((zz_ie0 (by omega)).mp z)
    refine ⟨v1, nm_r (e' := zz_i (E (8 * r + i) * E (8 * k + j))) (by rw [c1, e1, zz_imul]) ⟨v2, nm_r (e' := zz_i (E (8 * k + i) * E (8 * r + j))) (by rw [c2, e2, zz_imul]) ?_⟩⟩
    rw [zz_isub]
    refine br_f hd' ⟨hd', v1, ?_⟩
    refine nm_r (e' := upd w (8 * r + i) (zz_i (es_cl E m k j d (8 * r + i)))) ?_ (nm_r (nI_1 i) (ih (i + 1) n _ (by omega) (by omega) ?_))
    · rw [c1, zz_idiv (by omega) (by omega), es_clv _ h, if_pos ⟨hr, hrk⟩]
    · intro q hq c hc
      by_cases hx : q = r ∧ c = i
      · obtain ⟨rfl, rfl⟩ := hx
        rw [pk_us, if_pos (by omega)]
      · rw [pk_un (by omega), hw q hq c hc]
        by_cases hy : q < r ∨ (q = r ∧ c < i)
        · rw [if_pos hy, if_pos (by omega)]
        · rw [if_neg hy, if_neg (by omega)]
theorem xl_cl16 (post : SX → Prop) (fr ft fo fc : Int32) (tA sA xA pA cA : Nat → Int32) (E : Nat → Int) (m k j : Nat) (d : Int) (hm : m ≤ 4) (hk : k < m) (hj : j < 8) (hd : d ≠ 0) (hdb : d.natAbs ≤ 1944) (hb : ∀ q, q < m → ∀ c, c < 8 → (E (8 * q + c)).natAbs ≤ 1944)
    (hp : ∀ w, xa_E w (es_cl E m k j d) → post (nI m, fr, ft, fo, fc, tA, sA, xA, w, pA, cA)) :
    ∀ (e r n : Nat) (w : Nat → Int32), r + e = m → e < n → (∀ q, q < 4 → ∀ c, c < 8 → w (8 * q + c) = if q < r then zz_i (es_cl E m k j d (8 * q + c)) else zz_i (E (8 * q + c))) → wX_clearColumn_16 post (nI k) (nI j) (zz_i d) (zz_i (E (8 * k + j))) (nI m) fr ft fo fc n (nI r) tA sA xA w pA cA := by
  intro e
  induction e with
  | zero =>
    intro r n w hi hn hw
    obtain ⟨n, rfl⟩ : ∃ k, n = k + 1 := ⟨n - 1, by omega⟩
    rw [wX_clearColumn_16]
    refine pk_le m r (fun _ => hp w (fun q hq c hc => ?_)) (fun h => by omega)
    rw [hw q hq c hc]
    by_cases h : q < r
    · rw [if_pos h]
    · rw [if_neg h, es_clv _ hc, if_neg (by omega)]
  | succ e ih =>
    intro r n w hi hn hw
    obtain ⟨n, rfl⟩ : ∃ k, n = k + 1 := ⟨n - 1, by omega⟩
    rw [wX_clearColumn_16]
    refine pk_le m r (fun h => by omega) (fun h => ?_)
    refine pk_eq r k (fun hrk => nm_r (nI_1 r) (ih (r + 1) n w (by omega) (by omega) ?_)) (fun hrk => ?_)
    · intro q hq c hc
      rw [hw q hq c hc]
      by_cases h1 : q < r
      · rw [if_pos h1, if_pos (by omega)]
      · by_cases h2 : q = r
        · rw [if_neg h1, if_pos (by omega), es_clv _ hc, if_neg (by omega)]
        · rw [if_neg h1, if_neg (by omega)]
    · have c1 : (nI r * 8 + nI j).toNatClampNeg = 8 * r + j := by rw [zz_x, nI_clamp (by omega)]
      have v1 : vp_in (nI r * 8 + nI j) 32 := by rw [zz_x]; exact vp_in_nI (by omega) (by decide)
      refine ⟨v1, nm_r (e' := zz_i (E (8 * r + j))) (by rw [c1, hw r (by omega) j hj, if_neg (by omega)]) ⟨9, ?_⟩⟩
      refine xl_cl51 post _ fr ft fo fc tA sA xA pA cA E m k j r (nI j) d hm hk hj h hrk hd hdb hb (fun w' hw' => ih (r + 1) n w' (by omega) (by omega) hw') 8 0 9 w (by omega) (by omega) ?_
      intro q hq c hc
      rw [hw q hq c hc]
      by_cases h1 : q < r
      · rw [if_pos h1, if_pos (by omega)]
      · rw [if_neg h1, if_neg (by omega)]
