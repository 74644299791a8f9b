/-! forms, rows and tables over the whole numbers -/
abbrev V3 : Type := Int × Int × Int
abbrev T9 : Type := V3 × V3 × V3
abbrev F6 : Type := Int × Int × Int × Int × Int × Int
def qf_val (q : F6) (v : V3) : Int := q.1 * v.1 * v.1 + q.2.1 * v.2.1 * v.2.1 + q.2.2.1 * v.2.2 * v.2.2 + q.2.2.2.1 * v.2.1 * v.2.2 + q.2.2.2.2.1 * v.1 * v.2.2 + q.2.2.2.2.2 * v.1 * v.2.1
def qf_tch (q : F6) (v w : V3) : Int := 2 * q.1 * v.1 * w.1 + 2 * q.2.1 * v.2.1 * w.2.1 + 2 * q.2.2.1 * v.2.2 * w.2.2 + q.2.2.2.1 * (v.2.1 * w.2.2 + v.2.2 * w.2.1) + q.2.2.2.2.1 * (v.1 * w.2.2 + v.2.2 * w.1) + q.2.2.2.2.2 * (v.1 * w.2.1 + v.2.1 * w.1)
def qf_lin (M : T9) (v : V3) : V3 := (v.1 * M.1.1 + v.2.1 * M.2.1.1 + v.2.2 * M.2.2.1, v.1 * M.1.2.1 + v.2.1 * M.2.1.2.1 + v.2.2 * M.2.2.2.1, v.1 * M.1.2.2 + v.2.1 * M.2.1.2.2 + v.2.2 * M.2.2.2.2)
def qf_trn (q : F6) (M : T9) : F6 := (qf_val q M.1, qf_val q M.2.1, qf_val q M.2.2, qf_tch q M.2.1 M.2.2, qf_tch q M.1 M.2.2, qf_tch q M.1 M.2.1)
def qf_mul (N M : T9) : T9 := (qf_lin M N.1, qf_lin M N.2.1, qf_lin M N.2.2)
def qf_det (M : T9) : Int := M.1.1 * (M.2.1.2.1 * M.2.2.2.2 - M.2.1.2.2 * M.2.2.2.1) - M.1.2.1 * (M.2.1.1 * M.2.2.2.2 - M.2.1.2.2 * M.2.2.1) + M.1.2.2 * (M.2.1.1 * M.2.2.2.1 - M.2.1.2.1 * M.2.2.1)
def qf_disc (q : F6) : Int := 4 * q.1 * q.2.1 * q.2.2.1 + q.2.2.2.1 * q.2.2.2.2.1 * q.2.2.2.2.2 - q.1 * q.2.2.2.1 * q.2.2.2.1 - q.2.1 * q.2.2.2.2.1 * q.2.2.2.2.1 - q.2.2.1 * q.2.2.2.2.2 * q.2.2.2.2.2
def qf_one : T9 := ((1, 0, 0), (0, 1, 0), (0, 0, 1))
/-- what undoes a table, if its determinant is 1 or -1 -/
def qf_adj (M : T9) : T9 := ((M.2.1.2.1 * M.2.2.2.2 - M.2.1.2.2 * M.2.2.2.1, M.1.2.2 * M.2.2.2.1 - M.1.2.1 * M.2.2.2.2, M.1.2.1 * M.2.1.2.2 - M.1.2.2 * M.2.1.2.1), (M.2.1.2.2 * M.2.2.1 - M.2.1.1 * M.2.2.2.2, M.1.1 * M.2.2.2.2 - M.1.2.2 * M.2.2.1, M.1.2.2 * M.2.1.1 - M.1.1 * M.2.1.2.2), (M.2.1.1 * M.2.2.2.1 - M.2.1.2.1 * M.2.2.1, M.1.2.1 * M.2.2.1 - M.1.1 * M.2.2.2.1, M.1.1 * M.2.1.2.1 - M.1.2.1 * M.2.1.1))
def qf_sc (k : Int) (v : V3) : V3 := (k * v.1, k * v.2.1, k * v.2.2)
def qf_inv (M : T9) : T9 := (qf_sc (qf_det M) (qf_adj M).1, qf_sc (qf_det M) (qf_adj M).2.1, qf_sc (qf_det M) (qf_adj M).2.2)
def qf_gl (M : T9) : Prop := qf_det M = 1 ∨ qf_det M = -1
theorem qf_sq (x : Int) : 0 ≤ x * x := by
  rcases Int.le_total 0 x with h | h
  · exact Int.mul_nonneg h h
  · have := Int.mul_nonneg (Int.neg_nonneg_of_nonpos h) (Int.neg_nonneg_of_nonpos h)
    rwa [Int.neg_mul_neg] at this
theorem qf_sqp {x : Int} (h : x ≠ 0) : 0 < x * x := by
  have h1 := qf_sq x
  have h2 : x * x ≠ 0 := Int.mul_ne_zero h h
  omega
theorem qf_val_trn (q : F6) (M : T9) (v : V3) : qf_val (qf_trn q M) v = qf_val q (qf_lin M v) := by
  obtain ⟨a, b, c, d, e, f⟩ := q
  obtain ⟨⟨m0, m1, m2⟩, ⟨m3, m4, m5⟩, ⟨m6, m7, m8⟩⟩ := M
  obtain ⟨x, y, z⟩ := v
  simp only [qf_val, qf_trn, qf_lin, qf_tch]
  grind
theorem qf_tch_trn (q : F6) (M : T9) (v w : V3) : qf_tch (qf_trn q M) v w = qf_tch q (qf_lin M v) (qf_lin M w) := by
  obtain ⟨a, b, c, d, e, f⟩ := q
  obtain ⟨⟨m0, m1, m2⟩, ⟨m3, m4, m5⟩, ⟨m6, m7, m8⟩⟩ := M
  obtain ⟨x, y, z⟩ := v
  obtain ⟨x', y', z'⟩ := w
  simp only [qf_val, qf_trn, qf_lin, qf_tch]
  grind
theorem qf_trn_trn (q : F6) (M N : T9) : qf_trn (qf_trn q M) N = qf_trn q (qf_mul N M) := by
  simp only [qf_trn.eq_1 (qf_trn q M), qf_val_trn, qf_tch_trn]
  rfl
theorem qf_lin_lin (M N : T9) (v : V3) : qf_lin M (qf_lin N v) = qf_lin (qf_mul N M) v := by
  obtain ⟨⟨m0, m1, m2⟩, ⟨m3, m4, m5⟩, ⟨m6, m7, m8⟩⟩ := M
  obtain ⟨⟨n0, n1, n2⟩, ⟨n3, n4, n5⟩, ⟨n6, n7, n8⟩⟩ := N
  obtain ⟨x, y, z⟩ := v
  simp only [qf_lin, qf_mul, Prod.mk.injEq]
  refine ⟨?_, ?_, ?_⟩ <;> grind
theorem qf_mul_assoc (A B C : T9) : qf_mul (qf_mul A B) C = qf_mul A (qf_mul B C) := by
  simp only [qf_mul.eq_1 A, qf_mul.eq_1 (_, _) C, qf_mul.eq_1 _ C, qf_lin_lin]
theorem qf_det_mul (N M : T9) : qf_det (qf_mul N M) = qf_det N * qf_det M := by
  obtain ⟨⟨m0, m1, m2⟩, ⟨m3, m4, m5⟩, ⟨m6, m7, m8⟩⟩ := M
  obtain ⟨⟨n0, n1, n2⟩, ⟨n3, n4, n5⟩, ⟨n6, n7, n8⟩⟩ := N
  simp only [qf_lin, qf_mul, qf_det]
  grind
def qf_gram (q : F6) : T9 := ((2 * q.1, q.2.2.2.2.2, q.2.2.2.2.1), (q.2.2.2.2.2, 2 * q.2.1, q.2.2.2.1), (q.2.2.2.2.1, q.2.2.2.1, 2 * q.2.2.1))
def qf_tp (M : T9) : T9 := ((M.1.1, M.2.1.1, M.2.2.1), (M.1.2.1, M.2.1.2.1, M.2.2.2.1), (M.1.2.2, M.2.1.2.2, M.2.2.2.2))
theorem qf_det_tp (M : T9) : qf_det (qf_tp M) = qf_det M := by
  simp only [qf_det, qf_tp]
  grind
theorem qf_det_gram (q : F6) : qf_det (qf_gram q) = 2 * qf_disc q := by
  simp only [qf_det, qf_gram, qf_disc]
  grind
theorem qf_gram_trn (q : F6) (M : T9) : qf_gram (qf_trn q M) = qf_mul M (qf_mul (qf_gram q) (qf_tp M)) := by
  obtain ⟨a, b, c, d, e, f⟩ := q
  obtain ⟨⟨m0, m1, m2⟩, ⟨m3, m4, m5⟩, ⟨m6, m7, m8⟩⟩ := M
  simp only [qf_gram, qf_trn, qf_mul, qf_lin, qf_tp, qf_val, qf_tch, Prod.mk.injEq]
  refine ⟨⟨?_, ?_, ?_⟩, ⟨?_, ?_, ?_⟩, ⟨?_, ?_, ?_⟩⟩ <;> grind
theorem qf_disc_trn (q : F6) (M : T9) : qf_disc (qf_trn q M) = qf_det M * qf_det M * qf_disc q := by
  have h := qf_det_gram (qf_trn q M)
  rw [qf_gram_trn, qf_det_mul, qf_det_mul, qf_det_tp, qf_det_gram] at h
  grind
theorem qf_lin_one (v : V3) : qf_lin qf_one v = v := by
  obtain ⟨x, y, z⟩ := v
  simp only [qf_lin, qf_one, Prod.mk.injEq]
  refine ⟨?_, ?_, ?_⟩ <;> grind
theorem qf_one_mul (M : T9) : qf_mul qf_one M = M := by
  obtain ⟨⟨m0, m1, m2⟩, ⟨m3, m4, m5⟩, ⟨m6, m7, m8⟩⟩ := M
  simp only [qf_lin, qf_one, qf_mul, Prod.mk.injEq]
  refine ⟨⟨?_, ?_, ?_⟩, ⟨?_, ?_, ?_⟩, ⟨?_, ?_, ?_⟩⟩ <;> grind
theorem qf_mul_one (M : T9) : qf_mul M qf_one = M := by
  simp only [qf_mul, qf_lin_one]
theorem qf_trn_one (q : F6) : qf_trn q qf_one = q := by
  obtain ⟨a, b, c, d, e, f⟩ := q
  simp only [qf_trn, qf_one, qf_val, qf_tch, Prod.mk.injEq]
  refine ⟨?_, ?_, ?_, ?_, ?_, ?_⟩ <;> grind
theorem qf_gl_sq {M : T9} (h : qf_gl M) : qf_det M * qf_det M = 1 := by
  rcases h with h | h <;> rw [h] <;> rfl
theorem qf_gl_one : qf_gl qf_one := Or.inl (by decide)
theorem qf_gl_mul {N M : T9} (hN : qf_gl N) (hM : qf_gl M) : qf_gl (qf_mul N M) := by
  unfold qf_gl at *
  rw [qf_det_mul]
  rcases hN with h | h <;> rcases hM with h' | h' <;> rw [h, h'] <;> decide
theorem qf_inv_mul {M : T9} (h : qf_gl M) : qf_mul (qf_inv M) M = qf_one := by
  have h1 := qf_gl_sq h
  obtain ⟨⟨m0, m1, m2⟩, ⟨m3, m4, m5⟩, ⟨m6, m7, m8⟩⟩ := M
  simp only [qf_inv, qf_sc, qf_mul, qf_lin, qf_one, Prod.mk.injEq]
  generalize hD : qf_det ((m0, m1, m2), (m3, m4, m5), (m6, m7, m8)) = D at *
  simp only [qf_det] at hD
  simp only [qf_adj]
  refine ⟨⟨?_, ?_, ?_⟩, ⟨?_, ?_, ?_⟩, ⟨?_, ?_, ?_⟩⟩ <;> grind
theorem qf_mul_inv {M : T9} (h : qf_gl M) : qf_mul M (qf_inv M) = qf_one := by
  have h1 := qf_gl_sq h
  obtain ⟨⟨m0, m1, m2⟩, ⟨m3, m4, m5⟩, ⟨m6, m7, m8⟩⟩ := M
  simp only [qf_inv, qf_sc, qf_mul, qf_lin, qf_one, Prod.mk.injEq]
  generalize hD : qf_det ((m0, m1, m2), (m3, m4, m5), (m6, m7, m8)) = D at *
  simp only [qf_det] at hD
  simp only [qf_adj]
  refine ⟨⟨?_, ?_, ?_⟩, ⟨?_, ?_, ?_⟩, ⟨?_, ?_, ?_⟩⟩ <;> grind
theorem qf_gl_inv {M : T9} (h : qf_gl M) : qf_gl (qf_inv M) := by
  have h1 : qf_det (qf_inv M) * qf_det M = 1 := by rw [← qf_det_mul, qf_inv_mul h]; decide
  unfold qf_gl at *
  rcases h with h | h <;> rw [h] at h1 <;> omega
theorem qf_lin_inj {M : T9} (h : qf_gl M) {v w : V3} (hv : qf_lin M v = qf_lin M w) : v = w := by
  have h1 := congrArg (qf_lin (qf_inv M)) hv
  rw [qf_lin_lin, qf_lin_lin, qf_mul_inv h, qf_lin_one, qf_lin_one] at h1
  exact h1
theorem qf_lin_zero (M : T9) : qf_lin M (0, 0, 0) = (0, 0, 0) := by
  simp only [qf_lin, Prod.mk.injEq]
  refine ⟨?_, ?_, ?_⟩ <;> grind
theorem qf_trn_inv {q : F6} {M : T9} (h : qf_gl M) : qf_trn (qf_trn q M) (qf_inv M) = q := by
  rw [qf_trn_trn, qf_inv_mul h, qf_trn_one]
