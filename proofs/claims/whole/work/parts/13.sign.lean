/-! the sign of a flow, and the component's flowSign -/
theorem nx_or (a b : Nat) : nI a ||| nI b = nI (a ||| b) := by
  apply Int32.toBitVec_inj.1
  show BitVec.ofNat 32 a ||| BitVec.ofNat 32 b = BitVec.ofNat 32 (a ||| b)
  apply BitVec.eq_of_getLsbD_eq
  intro i hi
  simp [hi]
theorem zz_sh {j : Nat} (hj : j < 31) : (1 : Int32) <<< (nI j &&& 31) = nI (2 ^ j) := by
  have h := pk_shlN (n := 1) (nI j &&& 31) j (s_l j (by omega)) (by rw [Nat.one_mul]; exact Nat.pow_lt_pow_right (by decide) (by omega))
  rw [Nat.one_mul] at h
  exact h
theorem zz_hib {S j : Nat} (hS : S < 256) (hj : 8 ≤ j) : S.testBit j = false :=
  Nat.testBit_lt_two_pow (Nat.lt_of_lt_of_le hS (Nat.pow_le_pow_right (n := 2) (by decide) hj))
def sg_one (S t : Nat) : Nat := S &&& (t ^^^ 4294967295)
theorem sg_o32 (S t : Nat) : nI S &&& (nI t ^^^ (-1)) = nI (sg_one S t) := by
  rw [show (-1 : Int32) = nI 4294967295 from rfl, nx_xor, nx_and]; rfl
theorem sg_ob {S t j : Nat} (hj : j < 32) : (sg_one S t).testBit j = (S.testBit j && !t.testBit j) := by
  unfold sg_one
  rw [Nat.testBit_and, Nat.testBit_xor, show (4294967295 : Nat) = 2 ^ 32 - 1 from rfl, Nat.testBit_two_pow_sub_one, decide_eq_true hj, Bool.xor_true]
theorem sg_ole {S t : Nat} : sg_one S t ≤ S := Nat.and_le_left
theorem sg_o0 {S t : Nat} (hS : S < 256) : sg_one S t = 0 ↔ ∀ j, j < 8 → S.testBit j = true → t.testBit j = true := by
  constructor
  · intro h j hj hb
    have h1 := sg_ob (S := S) (t := t) (j := j) (by omega)
    rw [h, Nat.zero_testBit, hb] at h1
    cases ht : t.testBit j
    · rw [ht] at h1; exact absurd h1 (by decide)
    · rfl
  · intro h
    apply Nat.eq_of_testBit_eq
    intro j
    rw [Nat.zero_testBit]
    by_cases hj : j < 8
    · rw [sg_ob (by omega)]
      cases hb : S.testBit j
      · rfl
      · rw [h j hj hb]; rfl
    · exact zz_hib (Nat.lt_of_le_of_lt sg_ole hS) (by omega)
def sg_A (S t : Nat) (f : Nat → Int) : Prop := ∀ j, j < 8 → S.testBit j = true → t.testBit j = false → 0 ≤ f j
def sg_B (S t : Nat) (f : Nat → Int) : Prop := ∀ j, j < 8 → S.testBit j = true → t.testBit j = false → f j ≤ 0
def sg_lb (S : Nat) : Nat := if S.testBit 0 then 0 else if S.testBit 1 then 1 else if S.testBit 2 then 2 else if S.testBit 3 then 3 else if S.testBit 4 then 4 else if S.testBit 5 then 5 else if S.testBit 6 then 6 else 7
theorem sg_l1 : ∀ S, S < 256 → 0 < S → (nI S &&& -nI S) = nI (2 ^ sg_lb S) := by decide +kernel
theorem sg_l2 : ∀ S, S < 256 → 0 < S → S.testBit (sg_lb S) = true ∧ sg_lb S < 8 := by decide +kernel
theorem sg_l3 : ∀ S, S < 256 → ∀ i, i < 8 → i < sg_lb S → S.testBit i = false := by decide +kernel
noncomputable def sg_s (S t : Nat) (f : Nat → Int) : Int :=
  @ite _ (sg_A S t f) (Classical.propDecidable _) (@ite _ (sg_B S t f) (Classical.propDecidable _) (if f (sg_lb S) < 0 then -1 else 1) 1) (@ite _ (sg_B S t f) (Classical.propDecidable _) (-1) 0)
theorem sg_1 {S t : Nat} {f : Nat → Int} (a : sg_A S t f) (b : sg_B S t f) : sg_s S t f = if f (sg_lb S) < 0 then -1 else 1 := by
  unfold sg_s; rw [if_pos a, if_pos b]
theorem sg_2 {S t : Nat} {f : Nat → Int} (a : sg_A S t f) (b : ¬ sg_B S t f) : sg_s S t f = 1 := by
  unfold sg_s; rw [if_pos a, if_neg b]
theorem sg_3 {S t : Nat} {f : Nat → Int} (a : ¬ sg_A S t f) (b : sg_B S t f) : sg_s S t f = -1 := by
  unfold sg_s; rw [if_neg a, if_pos b]
theorem sg_4 {S t : Nat} {f : Nat → Int} (a : ¬ sg_A S t f) (b : ¬ sg_B S t f) : sg_s S t f = 0 := by
  unfold sg_s; rw [if_neg a, if_neg b]
theorem sg_r (S t : Nat) (f : Nat → Int) : sg_s S t f = 1 ∨ sg_s S t f = -1 ∨ sg_s S t f = 0 := by
  by_cases a : sg_A S t f <;> by_cases b : sg_B S t f
  · rw [sg_1 a b]; split
    · exact Or.inr (Or.inl rfl)
    · exact Or.inl rfl
  · exact Or.inl (sg_2 a b)
  · exact Or.inr (Or.inl (sg_3 a b))
  · exact Or.inr (Or.inr (sg_4 a b))
theorem sg_AB {S t : Nat} {f : Nat → Int} (hS : S < 256) (hf : ∀ j, j < 8 → S.testBit j = true → f j ≠ 0) : (sg_A S t f ∧ sg_B S t f) ↔ sg_one S t = 0 := by
  rw [sg_o0 hS]
  constructor
  · intro h j hj hb
    cases ht : t.testBit j
    · have h1 := h.1 j hj hb ht
      have h2 := h.2 j hj hb ht
      exact absurd (by omega) (hf j hj hb)
    · rfl
  · intro h
    exact ⟨fun j hj hb ht => (by rw [h j hj hb] at ht; exact absurd ht (by decide)), fun j hj hb ht => (by rw [h j hj hb] at ht; exact absurd ht (by decide))⟩
/-- a positive factor keeps the sign, a negative one turns it -/
theorem sg_pos {S t : Nat} {f g : Nat → Int} (hS : S < 256) (h0 : 0 < S) (h : ∀ j, j < 8 → (0 ≤ g j ↔ 0 ≤ f j) ∧ (g j ≤ 0 ↔ f j ≤ 0)) : sg_s S t g = sg_s S t f := by
  have hA : sg_A S t g ↔ sg_A S t f := ⟨fun a j hj hb ht => (h j hj).1.mp (a j hj hb ht), fun a j hj hb ht => (h j hj).1.mpr (a j hj hb ht)⟩
  have hB : sg_B S t g ↔ sg_B S t f := ⟨fun a j hj hb ht => (h j hj).2.mp (a j hj hb ht), fun a j hj hb ht => (h j hj).2.mpr (a j hj hb ht)⟩
  have hl := (sg_l2 S hS h0).2
  by_cases a : sg_A S t f <;> by_cases b : sg_B S t f
  · rw [sg_1 a b, sg_1 (hA.mpr a) (hB.mpr b)]
    have := (h _ hl).1
    by_cases z : f (sg_lb S) < 0
    · rw [if_pos z, if_pos (by omega)]
    · rw [if_neg z, if_neg (by omega)]
  · rw [sg_2 a b, sg_2 (hA.mpr a) (fun z => b (hB.mp z))]
  · rw [sg_3 a b, sg_3 (fun z => a (hA.mp z)) (hB.mpr b)]
  · rw [sg_4 a b, sg_4 (fun z => a (hA.mp z)) (fun z => b (hB.mp z))]
theorem sg_neg {S t : Nat} {f g : Nat → Int} (hS : S < 256) (h0 : 0 < S) (hf : ∀ j, j < 8 → S.testBit j = true → f j ≠ 0) (h : ∀ j, j < 8 → (0 ≤ g j ↔ f j ≤ 0) ∧ (g j ≤ 0 ↔ 0 ≤ f j)) : sg_s S t g = -sg_s S t f := by
  have hA : sg_A S t g ↔ sg_B S t f := ⟨fun a j hj hb ht => (h j hj).1.mp (a j hj hb ht), fun a j hj hb ht => (h j hj).1.mpr (a j hj hb ht)⟩
  have hB : sg_B S t g ↔ sg_A S t f := ⟨fun a j hj hb ht => (h j hj).2.mp (a j hj hb ht), fun a j hj hb ht => (h j hj).2.mpr (a j hj hb ht)⟩
  have hl := sg_l2 S hS h0
  by_cases a : sg_A S t f <;> by_cases b : sg_B S t f
  · rw [sg_1 a b, sg_1 (hA.mpr b) (hB.mpr a)]
    have h1 := h _ hl.2
    have h2 := hf _ hl.2 hl.1
    by_cases z : f (sg_lb S) < 0
    · rw [if_pos z, if_neg (by omega)]; rfl
    · rw [if_neg z, if_pos (by omega)]
  · rw [sg_2 a b, sg_3 (fun z => b (hA.mp z)) (hB.mpr a)]
  · rw [sg_3 a b, sg_2 (hA.mpr b) (fun z => a (hB.mp z))]; rfl
  · rw [sg_4 a b, sg_4 (fun z => b (hA.mp z)) (fun z => a (hB.mp z))]; rfl
def sg_N (f : Nat → Int) : Nat → Nat
  | 0 => 0
  | j + 1 => if f j < 0 then sg_N f j ||| 2 ^ j else sg_N f j
theorem sg_Nb {f : Nat → Int} {i : Nat} : ∀ n, (sg_N f n).testBit i = decide (i < n ∧ f i < 0) := by
  intro n
  induction n with
  | zero => rw [show sg_N f 0 = 0 from rfl, Nat.zero_testBit]; exact (decide_eq_false (by omega)).symm
  | succ n ih =>
    by_cases h : f n < 0
    · rw [show sg_N f (n + 1) = sg_N f n ||| 2 ^ n from if_pos h, Nat.testBit_or, ih, Nat.testBit_two_pow]
      by_cases hi : i = n
      · subst hi
        rw [decide_eq_true (show i < i + 1 ∧ f i < 0 from ⟨by omega, h⟩), decide_eq_true (show i = i from rfl), Bool.or_true]
      · rw [decide_eq_false (show ¬ n = i by omega), Bool.or_false]
        by_cases h2 : i < n ∧ f i < 0
        · rw [decide_eq_true h2, decide_eq_true ⟨by omega, h2.2⟩]
        · rw [decide_eq_false h2, decide_eq_false (fun z => h2 ⟨by omega, z.2⟩)]
    · rw [show sg_N f (n + 1) = sg_N f n from if_neg h, ih]
      by_cases h2 : i < n ∧ f i < 0
      · rw [decide_eq_true h2, decide_eq_true ⟨by omega, h2.2⟩]
      · rw [decide_eq_false h2, decide_eq_false (fun z => h2 ⟨by
          by_cases hi : i = n
          · subst hi; exact absurd z.2 h
          · omega, z.2⟩)]
theorem sg_fin {post : Int32 → Prop} {S t r D : Nat} {f : Nat → Int} (hS : S < 256) (h0 : 0 < S) (hr : r ≤ 8) (hSr : ∀ j, r ≤ j → ¬ S.testBit j = true) (hf : ∀ j, j < 8 → S.testBit j = true → f j ≠ 0) (hD : (sg_one S t = 0 ∧ D = 2 ^ sg_lb S) ∨ (sg_one S t ≠ 0 ∧ D = sg_one S t)) (hp : post (zz_i (sg_s S t f))) :
    (nI (sg_N f r &&& D) = 0 → post 1) ∧ (¬ nI (sg_N f r &&& D) = 0 → ((nI (sg_N f r &&& D) = nI D → post (-1)) ∧ (¬ nI (sg_N f r &&& D) = nI D → post 0))) := by
  have hDb : D < 256 := by
    rcases hD with ⟨_, h⟩ | ⟨_, h⟩
    · rw [h]; exact Nat.lt_of_lt_of_le (Nat.pow_lt_pow_right (by decide) (sg_l2 S hS h0).2) (by decide)
    · rw [h]; exact Nat.lt_of_le_of_lt sg_ole hS
  have hNb : sg_N f r &&& D < 256 := Nat.lt_of_le_of_lt Nat.and_le_right hDb
  have e0 : nI (sg_N f r &&& D) = 0 ↔ sg_N f r &&& D = 0 := nI_eq (b := 0) (by omega) (by decide)
  have eD : nI (sg_N f r &&& D) = nI D ↔ sg_N f r &&& D = D := nI_eq (by omega) (by omega)
  have hlt : ∀ j, S.testBit j = true → j < r := fun j hb => Classical.byContradiction (fun z => hSr j (by omega) hb)
  rcases hD with ⟨ho, hD⟩ | ⟨ho, hD⟩
  · have hab := (sg_AB (t := t) hS hf).mpr ho
    rw [sg_1 hab.1 hab.2] at hp
    have hl := sg_l2 S hS h0
    have hlr := hlt _ hl.1
    by_cases hz : f (sg_lb S) < 0
    · rw [if_pos hz] at hp
      have hN : sg_N f r &&& D = D := by
        rw [hD]
        apply Nat.eq_of_testBit_eq
        intro i
        rw [Nat.testBit_and, sg_Nb, Nat.testBit_two_pow]
        by_cases hi : sg_lb S = i
        · rw [decide_eq_true hi, ← hi, decide_eq_true ⟨hlr, hz⟩]; rfl
        · rw [decide_eq_false hi, Bool.and_false]
      have hD0 : D ≠ 0 := by rw [hD]; exact Nat.ne_of_gt (Nat.two_pow_pos _)
      refine br_f (fun z => hD0 ?_) (br_t (eD.mpr hN) hp)
      rw [← hN]; exact e0.mp z
    · rw [if_neg hz] at hp
      refine br_t (e0.mpr ?_) hp
      rw [hD]
      apply Nat.eq_of_testBit_eq
      intro i
      rw [Nat.testBit_and, sg_Nb, Nat.testBit_two_pow, Nat.zero_testBit]
      by_cases hi : sg_lb S = i
      · rw [← hi, decide_eq_false (fun z => hz z.2)]; rfl
      · rw [decide_eq_false hi, Bool.and_false]
  · have hab : ¬ (sg_A S t f ∧ sg_B S t f) := fun z => ho ((sg_AB hS hf).mp z)
    have hA : sg_N f r &&& D = 0 ↔ sg_A S t f := by
      rw [hD]
      constructor
      · intro z j hj hb ht
        have h1 : (sg_N f r &&& sg_one S t).testBit j = false := by rw [z, Nat.zero_testBit]
        rw [Nat.testBit_and, sg_Nb, sg_ob (by omega), hb, ht] at h1
        have hjr := hlt j hb
        by_cases hfj : f j < 0
        · rw [decide_eq_true ⟨hjr, hfj⟩] at h1; exact absurd h1 (by decide)
        · omega
      · intro a
        apply Nat.eq_of_testBit_eq
        intro j
        rw [Nat.testBit_and, sg_Nb, Nat.zero_testBit]
        by_cases hj : j < 8
        · rw [sg_ob (by omega)]
          cases hb : S.testBit j
          · rw [Bool.false_and, Bool.and_false]
          · cases ht : t.testBit j
            · rw [decide_eq_false (fun z => by have := a j hj hb ht; omega)]; rfl
            · rw [Bool.not_true, Bool.and_false, Bool.and_false]
        · rw [zz_hib (Nat.lt_of_le_of_lt sg_ole hS) (by omega), Bool.and_false]
    have hB : sg_N f r &&& D = D ↔ sg_B S t f := by
      rw [hD]
      constructor
      · intro z j hj hb ht
        have h1 : (sg_N f r &&& sg_one S t).testBit j = (sg_one S t).testBit j := by rw [z]
        rw [Nat.testBit_and, sg_Nb, sg_ob (by omega), hb, ht] at h1
        by_cases hfj : j < r ∧ f j < 0
        · omega
        · rw [decide_eq_false hfj] at h1; exact absurd h1 (by decide)
      · intro b
        apply Nat.eq_of_testBit_eq
        intro j
        rw [Nat.testBit_and, sg_Nb]
        by_cases hj : j < 8
        · rw [sg_ob (by omega)]
          cases hb : S.testBit j
          · rw [Bool.false_and, Bool.and_false]
          · cases ht : t.testBit j
            · rw [decide_eq_true ⟨hlt j hb, by have := b j hj hb ht; have := hf j hj hb; omega⟩]; rfl
            · rw [Bool.not_true, Bool.and_false, Bool.and_false]
        · rw [zz_hib (Nat.lt_of_le_of_lt sg_ole hS) (by omega), Bool.and_false]
    by_cases a : sg_A S t f
    · rw [sg_2 a (fun b => hab ⟨a, b⟩)] at hp
      exact br_t (e0.mpr (hA.mpr a)) hp
    · refine br_f (fun z => a (hA.mp (e0.mp z))) ?_
      by_cases b : sg_B S t f
      · rw [sg_3 a b] at hp
        exact br_t (eD.mpr (hB.mpr b)) hp
      · rw [sg_4 a b] at hp
        exact br_f (fun z => b (hB.mp (eD.mp z))) hp
theorem xl_sign (post : Int32 → Prop) (fm fo fc : Int32) (tA sA xA w pA cA : Nat → Int32) (r t S : Nat) (f : Nat → Int) (hr : r ≤ 8) (hS : S < 256) (h0 : 0 < S) (hSr : ∀ j, r ≤ j → ¬ S.testBit j = true) (hc : ∀ j, j < 8 → cA j = zz_i (f j)) (hfb : ∀ j, j < 8 → (f j).natAbs ≤ 1944) (hf : ∀ j, j < 8 → S.testBit j = true → f j ≠ 0) (hp : post (zz_i (sg_s S t f))) :
    wpX_flowSign post (fm, nI r, nI t, fo, fc, tA, sA, xA, w, pA, cA) (nI S) := by
  have H : ∀ D, ((sg_one S t = 0 ∧ D = 2 ^ sg_lb S) ∨ (sg_one S t ≠ 0 ∧ D = sg_one S t)) → ∀ (e j n : Nat), j + e = r → e < n → wX_flowSign_28 post (nI D) fm (nI r) (nI t) fo fc tA sA xA w pA cA n (nI (sg_N f j)) (nI j) := by
    intro D hD e
    induction e with
    | zero =>
      intro j n hj hn
      obtain ⟨n, rfl⟩ : ∃ k, n = k + 1 := ⟨n - 1, by omega⟩
      have hjr : j = r := by omega
      subst hjr
      rw [wX_flowSign_28]
      exact pk_le j j (fun _ => nm_r (nx_and _ _) (sg_fin hS h0 hr hSr hf hD hp)) (fun h => by omega)
    | succ e ih =>
      intro j n hj hn
      obtain ⟨n, rfl⟩ : ∃ k, n = k + 1 := ⟨n - 1, by omega⟩
      rw [wX_flowSign_28]
      refine pk_le r j (fun h => by omega) (fun h => ⟨vp_in_nI (by omega) (by decide), ?_⟩)
      rw [nI_clamp (by omega), hc j (by omega)]
      have hb := hfb j (by omega)
      have := ih (j + 1) n (by omega) (by omega)
      by_cases hz : f j < 0
      · rw [show sg_N f (j + 1) = sg_N f j ||| 2 ^ j from if_pos hz] at this
        exact br_f (fun z => by have := (zz_i0le (by omega)).mp z; omega) (nm_r (e' := nI (sg_N f j ||| 2 ^ j)) (by rw [zz_sh (by omega), nx_or]) (nm_r (nI_1 j) this))
      · rw [show sg_N f (j + 1) = sg_N f j from if_neg hz] at this
        exact br_t ((zz_i0le (by omega)).mpr (by omega)) (nm_r (nI_1 j) this)
  refine nm_r (sg_o32 S t) ?_
  have hole := @sg_ole S t
  by_cases ho : sg_one S t = 0
  · rw [ho]
    exact br_t rfl (nm_r (sg_l1 S hS h0) ⟨r + 1, H _ (Or.inl ⟨ho, rfl⟩) r 0 (r + 1) (by omega) (by omega)⟩)
  · exact br_f (nI_ne0 (by omega) (by omega)) ⟨r + 1, H _ (Or.inr ⟨ho, rfl⟩) r 0 (r + 1) (by omega) (by omega)⟩
