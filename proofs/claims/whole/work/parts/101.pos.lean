/-! positive forms: what is above 0, how far a row reaches -/
theorem qf_lg (a b : Int) : a < b ∨ b ≤ a := by omega
theorem qf_tri (a b : Int) : a < b ∨ a = b ∨ b < a := by omega
theorem qf_pos_of {k v : Int} (hk : 0 < k) (h : 0 < k * v) : 0 < v := by
  rcases qf_lg 0 v with h1 | h1
  · exact h1
  · have h2 := Int.mul_nonneg (Int.le_of_lt hk) (Int.neg_nonneg_of_nonpos h1)
    rw [Int.mul_neg] at h2
    omega
theorem qf_nn_of {k v : Int} (hk : 0 < k) (h : 0 ≤ k * v) : 0 ≤ v := by
  rcases qf_lg v 0 with h1 | h1
  · have h2 := Int.mul_pos hk (Int.neg_pos_of_neg h1)
    rw [Int.mul_neg] at h2
    omega
  · exact h1
def qf_pd (q : F6) : Prop := 0 < q.1 ∧ 0 < 4 * q.1 * q.2.1 - q.2.2.2.2.2 * q.2.2.2.2.2 ∧ 0 < qf_disc q
def qf_pdv (q : F6) : Prop := ∀ v : V3, v ≠ (0, 0, 0) → 0 < qf_val q v
theorem qf_reach_z {q : F6} (h : qf_pd q) (v : V3) : qf_disc q * (v.2.2 * v.2.2) ≤ (4 * q.1 * q.2.1 - q.2.2.2.2.2 * q.2.2.2.2.2) * qf_val q v := by
  obtain ⟨a, b, c, d, e, f⟩ := q
  obtain ⟨x, y, z⟩ := v
  obtain ⟨h1, h2, h3⟩ := h
  simp only [qf_val] at *
  generalize hD : qf_disc (a, b, c, d, e, f) = D at *
  simp only [qf_disc] at hD
  have i1 : (4 * a) * ((4 * a * b - f * f) * (a * x * x + b * y * y + c * z * z + d * y * z + e * x * z + f * x * y) - D * (z * z)) = (4 * a * b - f * f) * ((2 * a * x + f * y + e * z) * (2 * a * x + f * y + e * z)) + ((4 * a * b - f * f) * y + (2 * a * d - e * f) * z) * ((4 * a * b - f * f) * y + (2 * a * d - e * f) * z) := by grind
  have i2 := Int.mul_nonneg (Int.le_of_lt h2) (qf_sq (2 * a * x + f * y + e * z))
  have i3 := qf_sq ((4 * a * b - f * f) * y + (2 * a * d - e * f) * z)
  have i4 := qf_nn_of (k := 4 * a) (by omega) (by rw [i1]; omega)
  omega
theorem qf_pdv_of {q : F6} (h : qf_pd q) : qf_pdv q := by
  intro v hv
  obtain ⟨a, b, c, d, e, f⟩ := q
  obtain ⟨x, y, z⟩ := v
  obtain ⟨h1, h2, h3⟩ := h
  simp only [qf_val] at *
  generalize hD : qf_disc (a, b, c, d, e, f) = D at *
  simp only [qf_disc] at hD
  have i1 : (4 * a) * ((4 * a * b - f * f) * (a * x * x + b * y * y + c * z * z + d * y * z + e * x * z + f * x * y)) = (4 * a * b - f * f) * ((2 * a * x + f * y + e * z) * (2 * a * x + f * y + e * z)) + ((4 * a * b - f * f) * y + (2 * a * d - e * f) * z) * ((4 * a * b - f * f) * y + (2 * a * d - e * f) * z) + 4 * a * D * (z * z) := by grind
  have i2 := Int.mul_nonneg (Int.le_of_lt h2) (qf_sq (2 * a * x + f * y + e * z))
  have i3 := qf_sq ((4 * a * b - f * f) * y + (2 * a * d - e * f) * z)
  have h4 : 0 < 4 * a * D := Int.mul_pos (by omega) h3
  have i5 := Int.mul_nonneg (Int.le_of_lt h4) (qf_sq z)
  refine qf_pos_of h2 (qf_pos_of (k := 4 * a) (by omega) ?_)
  rw [i1]
  by_cases hz : z = 0
  · subst hz
    by_cases hy : y = 0
    · subst hy
      have hx : x ≠ 0 := fun e => hv (by rw [e])
      have j1 : 2 * a * x + f * 0 + e * 0 ≠ 0 := by
        have : 2 * a * x ≠ 0 := Int.mul_ne_zero (by omega) hx
        omega
      have j2 := Int.mul_pos h2 (qf_sqp j1)
      omega
    · have j1 : (4 * a * b - f * f) * y + (2 * a * d - e * f) * 0 ≠ 0 := by
        have : (4 * a * b - f * f) * y ≠ 0 := Int.mul_ne_zero (by omega) hy
        omega
      have j2 := qf_sqp j1
      omega
  · have j2 := Int.mul_pos h4 (qf_sqp hz)
    omega
theorem qf_pd_of {q : F6} (h : qf_pdv q) : qf_pd q := by
  obtain ⟨a, b, c, d, e, f⟩ := q
  have h1 : 0 < a := by
    have := h (1, 0, 0) (by decide)
    simp only [qf_val] at this
    omega
  have h2 : 0 < 4 * a * b - f * f := by
    have h9 := h (f, -(2 * a), 0) (by intro e9; simp only [Prod.mk.injEq] at e9; omega)
    simp only [qf_val] at h9
    refine qf_pos_of h1 ?_
    have : a * (4 * a * b - f * f) = a * f * f + b * -(2 * a) * -(2 * a) + c * 0 * 0 + d * -(2 * a) * 0 + e * f * 0 + f * f * -(2 * a) := by grind
    omega
  refine ⟨h1, h2, ?_⟩
  have h9 := h (d * f - 2 * b * e, e * f - 2 * a * d, 4 * a * b - f * f) (by intro e9; simp only [Prod.mk.injEq] at e9; omega)
  simp only [qf_val] at h9
  refine qf_pos_of h2 ?_
  simp only [qf_disc]
  have : (4 * a * b - f * f) * (4 * a * b * c + d * e * f - a * d * d - b * e * e - c * f * f) = a * (d * f - 2 * b * e) * (d * f - 2 * b * e) + b * (e * f - 2 * a * d) * (e * f - 2 * a * d) + c * (4 * a * b - f * f) * (4 * a * b - f * f) + d * (e * f - 2 * a * d) * (4 * a * b - f * f) + e * (d * f - 2 * b * e) * (4 * a * b - f * f) + f * (d * f - 2 * b * e) * (e * f - 2 * a * d) := by grind
  omega
theorem qf_pdv_trn {q : F6} {M : T9} (h : qf_pdv q) (hM : qf_gl M) : qf_pdv (qf_trn q M) := by
  intro v hv
  rw [qf_val_trn]
  refine h _ (fun e => hv ?_)
  exact qf_lin_inj hM (e.trans (qf_lin_zero M).symm)
theorem qf_pd_trn {q : F6} {M : T9} (h : qf_pd q) (hM : qf_gl M) : qf_pd (qf_trn q M) := qf_pd_of (qf_pdv_trn (qf_pdv_of h) hM)
/-- letters changed about -/
theorem qf_pd_xz {a b c d e f : Int} (h : qf_pd (a, b, c, d, e, f)) : qf_pd (c, b, a, f, e, d) := by
  refine qf_pd_of (fun v hv => ?_)
  obtain ⟨x, y, z⟩ := v
  have := qf_pdv_of h (z, y, x) (by intro e9; apply hv; simp only [Prod.mk.injEq] at e9 ⊢; omega)
  simp only [qf_val] at this ⊢
  have e9 : c * x * x + b * y * y + a * z * z + f * y * z + e * x * z + d * x * y = a * z * z + b * y * y + c * x * x + d * y * x + e * z * x + f * z * y := by grind
  omega
theorem qf_pd_yz {a b c d e f : Int} (h : qf_pd (a, b, c, d, e, f)) : qf_pd (a, c, b, d, f, e) := by
  refine qf_pd_of (fun v hv => ?_)
  obtain ⟨x, y, z⟩ := v
  have := qf_pdv_of h (x, z, y) (by intro e9; apply hv; simp only [Prod.mk.injEq] at e9 ⊢; omega)
  simp only [qf_val] at this ⊢
  have e9 : a * x * x + c * y * y + b * z * z + d * y * z + f * x * z + e * x * y = a * x * x + b * z * z + c * y * y + d * z * y + e * x * y + f * x * z := by grind
  omega
theorem qf_reach_x {q : F6} (h : qf_pd q) (v : V3) : qf_disc q * (v.1 * v.1) ≤ (4 * q.2.1 * q.2.2.1 - q.2.2.2.1 * q.2.2.2.1) * qf_val q v := by
  obtain ⟨a, b, c, d, e, f⟩ := q
  obtain ⟨x, y, z⟩ := v
  have := qf_reach_z (qf_pd_xz h) (z, y, x)
  simp only [qf_val, qf_disc] at this ⊢
  grind
theorem qf_reach_y {q : F6} (h : qf_pd q) (v : V3) : qf_disc q * (v.2.1 * v.2.1) ≤ (4 * q.1 * q.2.2.1 - q.2.2.2.2.1 * q.2.2.2.2.1) * qf_val q v := by
  obtain ⟨a, b, c, d, e, f⟩ := q
  obtain ⟨x, y, z⟩ := v
  have := qf_reach_z (qf_pd_yz h) (x, z, y)
  simp only [qf_val, qf_disc] at this ⊢
  grind
