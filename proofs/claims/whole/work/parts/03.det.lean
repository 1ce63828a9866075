/-! determinants of order two to four by their last row, and the identities of a fraction-free elimination -/
def dt_2 (a0 b0 a1 b1 : Int) : Int := a0 * b1 - b0 * a1
def dt_3 (a0 b0 c0 a1 b1 c1 a2 b2 c2 : Int) : Int := a2 * dt_2 b0 c0 b1 c1 - b2 * dt_2 a0 c0 a1 c1 + c2 * dt_2 a0 b0 a1 b1
def dt_4 (a0 b0 c0 e0 a1 b1 c1 e1 a2 b2 c2 e2 a3 b3 c3 e3 : Int) : Int := b3 * dt_3 a0 c0 e0 a1 c1 e1 a2 c2 e2 - a3 * dt_3 b0 c0 e0 b1 c1 e1 b2 c2 e2 + e3 * dt_3 a0 b0 c0 a1 b1 c1 a2 b2 c2 - c3 * dt_3 a0 b0 e0 a1 b1 e1 a2 b2 e2
theorem dt_b2 {a0 b0 a1 b1 : Int} (ha0 : a0.natAbs ≤ 3) (hb0 : b0.natAbs ≤ 3) (ha1 : a1.natAbs ≤ 3) (hb1 : b1.natAbs ≤ 3) : (dt_2 a0 b0 a1 b1).natAbs ≤ 18 := by
  have h1 := zz_mb ha0 hb1
  have h2 := zz_mb hb0 ha1
  unfold dt_2
  omega
theorem dt_i1 (a0 j0 c0 a1 j1 c1 : Int) : c0 * dt_2 a0 j0 a1 j1 - dt_2 a0 c0 a1 c1 * j0 = a0 * dt_2 c0 j0 c1 j1 := by
  unfold dt_2; grind
theorem dt_i2 (a0 j0 c0 a1 j1 c1 aq jq cq : Int) : dt_2 a0 c0 aq cq * dt_2 a0 j0 a1 j1 - dt_2 a0 c0 a1 c1 * dt_2 a0 j0 aq jq = a0 * dt_3 a0 j0 c0 a1 j1 c1 aq jq cq := by
  unfold dt_3 dt_2; grind
theorem dt_i3 (a0 b0 j0 c0 a1 b1 j1 c1 a2 b2 j2 c2 : Int) : dt_2 c0 b0 c1 b1 * dt_3 a0 b0 j0 a1 b1 j1 a2 b2 j2 - dt_3 a0 b0 c0 a1 b1 c1 a2 b2 c2 * dt_2 j0 b0 j1 b1 = dt_2 a0 b0 a1 b1 * dt_3 c0 b0 j0 c1 b1 j1 c2 b2 j2 := by
  unfold dt_3 dt_2; grind
theorem dt_i4 (a0 b0 j0 c0 a1 b1 j1 c1 a2 b2 j2 c2 : Int) : dt_2 a0 c0 a1 c1 * dt_3 a0 b0 j0 a1 b1 j1 a2 b2 j2 - dt_3 a0 b0 c0 a1 b1 c1 a2 b2 c2 * dt_2 a0 j0 a1 j1 = dt_2 a0 b0 a1 b1 * dt_3 a0 c0 j0 a1 c1 j1 a2 c2 j2 := by
  unfold dt_3 dt_2; grind
theorem dt_i5 (a0 b0 j0 c0 a1 b1 j1 c1 a2 b2 j2 c2 a3 b3 j3 c3 : Int) : dt_3 a0 b0 c0 a1 b1 c1 a3 b3 c3 * dt_3 a0 b0 j0 a1 b1 j1 a2 b2 j2 - dt_3 a0 b0 c0 a1 b1 c1 a2 b2 c2 * dt_3 a0 b0 j0 a1 b1 j1 a3 b3 j3 = dt_2 a0 b0 a1 b1 * dt_4 a0 b0 j0 c0 a1 b1 j1 c1 a2 b2 j2 c2 a3 b3 j3 c3 := by
  unfold dt_4 dt_3 dt_2; grind
theorem dt_i6 (a0 b0 e0 j0 c0 a1 b1 e1 j1 c1 a2 b2 e2 j2 c2 a3 b3 e3 j3 c3 : Int) : dt_3 c0 b0 e0 c1 b1 e1 c2 b2 e2 * dt_4 a0 b0 e0 j0 a1 b1 e1 j1 a2 b2 e2 j2 a3 b3 e3 j3 - dt_4 a0 b0 e0 c0 a1 b1 e1 c1 a2 b2 e2 c2 a3 b3 e3 c3 * dt_3 j0 b0 e0 j1 b1 e1 j2 b2 e2 = dt_3 a0 b0 e0 a1 b1 e1 a2 b2 e2 * dt_4 c0 b0 e0 j0 c1 b1 e1 j1 c2 b2 e2 j2 c3 b3 e3 j3 := by
  unfold dt_4 dt_3 dt_2; grind
