/-! determinants of order two to four by their last row, and the identities of a fraction-free elimination -/
def dt_2 (a0 b0 a1 b1 : Int) : Int := a0 * b1 - b0 * a1
def dt_3 (a0 b0 c0 a1 b1 c1 a2 b2 c2 : Int) : Int := a2 * dt_2 b0 c0 b1 c1 - b2 * dt_2 a0 c0 a1 c1 + c2 * dt_2 a0 b0 a1 b1
def dt_4 (a0 b0 c0 e0 a1 b1 c1 e1 a2 b2 c2 e2 a3 b3 c3 e3 : Int) : Int := b3 * dt_3 a0 c0 e0 a1 c1 e1 a2 c2 e2 - a3 * dt_3 b0 c0 e0 b1 c1 e1 b2 c2 e2 + e3 * dt_3 a0 b0 c0 a1 b1 c1 a2 b2 c2 - c3 * dt_3 a0 b0 e0 a1 b1 e1 a2 b2 e2
theorem dt_b2 {a0 b0 a1 b1 : Int} (ha0 : a0.natAbs ≤ 3) (hb0 : b0.natAbs ≤ 3) (ha1 : a1.natAbs ≤ 3) (hb1 : b1.natAbs ≤ 3) : (dt_2 a0 b0 a1 b1).natAbs ≤ 18 := by
  have h1 := zz_mb ha0 hb1
  have h2 := zz_mb hb0 ha1
  unfold dt_2
  omega
theorem dt_i1 (a0 j0 c0 a1 j1 c1 : Int) : c0 * dt_2 a0 j0 a1 j1 - dt_2 a0 c0 a1 c1 * j0 = a0 * dt_2 c0 j0 c1 j1 := by
  unfold dt_2; grind
theorem dt_i2 (a0 j0 c0 a1 j1 c1 aq jq cq : Int) : dt_2 a0 c0 aq cq * dt_2 a0 j0 a1 j1 - dt_2 a0 c0 a1 c1 * dt_2 a0 j0 aq jq = a0 * dt_3 a0 j0 c0 a1 j1 c1 aq jq cq := by
  unfold dt_3 dt_2; grind
theorem dt_i3 (a0 b0 j0 c0 a1 b1 j1 c1 a2 b2 j2 c2 : Int) : dt_2 c0 b0 c1 b1 * dt_3 a0 b0 j0 a1 b1 j1 a2 b2 j2 - dt_3 a0 b0 c0 a1 b1 c1 a2 b2 c2 * dt_2 j0 b0 j1 b1 = dt_2 a0 b0 a1 b1 * dt_3 c0 b0 j0 c1 b1 j1 c2 b2 j2 := by
  unfold dt_3 dt_2; grind
theorem dt_i4 (a0 b0 j0 c0 a1 b1 j1 c1 a2 b2 j2 c2 : Int) : dt_2 a0 c0 a1 c1 * dt_3 a0 b0 j0 a1 b1 j1 a2 b2 j2 - dt_3 a0 b0 c0 a1 b1 c1 a2 b2 c2 * dt_2 a0 j0 a1 j1 = dt_2 a0 b0 a1 b1 * dt_3 a0 c0 j0 a1 c1 j1 a2 c2 j2 := by
  unfold dt_3 dt_2; grind
theorem dt_i5 (a0 b0 j0 c0 a1 b1 j1 c1 a2 b2 j2 c2 a3 b3 j3 c3 : Int) : dt_3 a0 b0 c0 a1 b1 c1 a3 b3 c3 * dt_3 a0 b0 j0 a1 b1 j1 a2 b2 j2 - dt_3 a0 b0 c0 a1 b1 c1 a2 b2 c2 * dt_3 a0 b0 j0 a1 b1 j1 a3 b3 j3 = dt_2 a0 b0 a1 b1 * dt_4 a0 b0 j0 c0 a1 b1 j1 c1 a2 b2 j2 c2 a3 b3 j3 c3 := by
  unfold dt_4 dt_3 dt_2; grind
theorem dt_i6 (a0 b0 e0 j0 c0 a1 b1 e1 j1 c1 a2 b2 e2 j2 c2 a3 b3 e3 j3 c3 : Int) : dt_3 c0 b0 e0 c1 b1 e1 c2 b2 e2 * dt_4 a0 b0 e0 j0 a1 b1 e1 j1 a2 b2 e2 j2 a3 b3 e3 j3 - dt_4 a0 b0 e0 c0 a1 b1 e1 c1 a2 b2 e2 c2 a3 b3 e3 c3 * dt_3 j0 b0 e0 j1 b1 e1 j2 b2 e2 = dt_3 a0 b0 e0 a1 b1 e1 a2 b2 e2 * dt_4 c0 b0 e0 j0 c1 b1 e1 j1 c2 b2 e2 j2 c3 b3 e3 j3 := by
  unfold dt_4 dt_3 dt_2; grind
theorem dt_i7 (a0 b0 e0 j0 c0 a1 b1 e1 j1 c1 a2 b2 e2 j2 c2 a3 b3 e3 j3 c3 : Int) : dt_3 a0 c0 e0 a1 c1 e1 a2 c2 e2 * dt_4 a0 b0 e0 j0 a1 b1 e1 j1 a2 b2 e2 j2 a3 b3 e3 j3 - dt_4 a0 b0 e0 c0 a1 b1 e1 c1 a2 b2 e2 c2 a3 b3 e3 c3 * dt_3 a0 j0 e0 a1 j1 e1 a2 j2 e2 = dt_3 a0 b0 e0 a1 b1 e1 a2 b2 e2 * dt_4 a0 c0 e0 j0 a1 c1 e1 j1 a2 c2 e2 j2 a3 c3 e3 j3 := by
  unfold dt_4 dt_3 dt_2; grind
theorem dt_i8 (a0 b0 e0 j0 c0 a1 b1 e1 j1 c1 a2 b2 e2 j2 c2 a3 b3 e3 j3 c3 : Int) : dt_3 a0 b0 c0 a1 b1 c1 a2 b2 c2 * dt_4 a0 b0 e0 j0 a1 b1 e1 j1 a2 b2 e2 j2 a3 b3 e3 j3 - dt_4 a0 b0 e0 c0 a1 b1 e1 c1 a2 b2 e2 c2 a3 b3 e3 c3 * dt_3 a0 b0 j0 a1 b1 j1 a2 b2 j2 = dt_3 a0 b0 e0 a1 b1 e1 a2 b2 e2 * dt_4 a0 b0 c0 j0 a1 b1 c1 j1 a2 b2 c2 j2 a3 b3 c3 j3 := by
  unfold dt_4 dt_3 dt_2; grind
theorem dt_b3 {a0 b0 c0 a1 b1 c1 a2 b2 c2 : Int} (ha0 : a0.natAbs ≤ 3) (hb0 : b0.natAbs ≤ 3) (hc0 : c0.natAbs ≤ 3) (ha1 : a1.natAbs ≤ 3) (hb1 : b1.natAbs ≤ 3) (hc1 : c1.natAbs ≤ 3) (ha2 : a2.natAbs ≤ 3) (hb2 : b2.natAbs ≤ 3) (hc2 : c2.natAbs ≤ 3) : (dt_3 a0 b0 c0 a1 b1 c1 a2 b2 c2).natAbs ≤ 162 := by
  have ma := zz_mb ha2 (dt_b2 hb0 hc0 hb1 hc1)
  have mb := zz_mb hb2 (dt_b2 ha0 hc0 ha1 hc1)
  have mc := zz_mb hc2 (dt_b2 ha0 hb0 ha1 hb1)
  unfold dt_3
  omega
theorem dt_b4 {a0 b0 c0 e0 a1 b1 c1 e1 a2 b2 c2 e2 a3 b3 c3 e3 : Int} (ha0 : a0.natAbs ≤ 3) (hb0 : b0.natAbs ≤ 3) (hc0 : c0.natAbs ≤ 3) (he0 : e0.natAbs ≤ 3) (ha1 : a1.natAbs ≤ 3) (hb1 : b1.natAbs ≤ 3) (hc1 : c1.natAbs ≤ 3) (he1 : e1.natAbs ≤ 3) (ha2 : a2.natAbs ≤ 3) (hb2 : b2.natAbs ≤ 3) (hc2 : c2.natAbs ≤ 3) (he2 : e2.natAbs ≤ 3) (ha3 : a3.natAbs ≤ 3) (hb3 : b3.natAbs ≤ 3) (hc3 : c3.natAbs ≤ 3) (he3 : e3.natAbs ≤ 3) : (dt_4 a0 b0 c0 e0 a1 b1 c1 e1 a2 b2 c2 e2 a3 b3 c3 e3).natAbs ≤ 1944 := by
  have ma := zz_mb ha3 (dt_b3 hb0 hc0 he0 hb1 hc1 he1 hb2 hc2 he2)
  have mb := zz_mb hb3 (dt_b3 ha0 hc0 he0 ha1 hc1 he1 ha2 hc2 he2)
  have mc := zz_mb hc3 (dt_b3 ha0 hb0 he0 ha1 hb1 he1 ha2 hb2 he2)
  have me := zz_mb he3 (dt_b3 ha0 hb0 hc0 ha1 hb1 hc1 ha2 hb2 hc2)
  unfold dt_4
  omega
