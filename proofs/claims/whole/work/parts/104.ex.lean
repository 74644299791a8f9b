/-! forms in any order that no sum makes shorter; each form has such a one among those into which tables turn it -/
def qr_R (q : F6) : Prop := (0 < q.1 ∧ 0 < q.2.1 ∧ 0 < q.2.2.1) ∧ (-q.1 ≤ q.2.2.2.2.2 ∧ q.2.2.2.2.2 ≤ q.1 ∧ -q.2.1 ≤ q.2.2.2.2.2 ∧ q.2.2.2.2.2 ≤ q.2.1) ∧ (-q.1 ≤ q.2.2.2.2.1 ∧ q.2.2.2.2.1 ≤ q.1 ∧ -q.2.2.1 ≤ q.2.2.2.2.1 ∧ q.2.2.2.2.1 ≤ q.2.2.1) ∧ (-q.2.1 ≤ q.2.2.2.1 ∧ q.2.2.2.1 ≤ q.2.1 ∧ -q.2.2.1 ≤ q.2.2.2.1 ∧ q.2.2.2.1 ≤ q.2.2.1) ∧ (∀ u : Int, (u = q.1 + q.2.1 ∨ u = q.1 + q.2.2.1 ∨ u = q.2.1 + q.2.2.1) → 0 ≤ u + q.2.2.2.1 + q.2.2.2.2.1 + q.2.2.2.2.2 ∧ 0 ≤ u - q.2.2.2.1 - q.2.2.2.2.1 + q.2.2.2.2.2 ∧ 0 ≤ u - q.2.2.2.1 + q.2.2.2.2.1 - q.2.2.2.2.2 ∧ 0 ≤ u + q.2.2.2.1 - q.2.2.2.2.1 - q.2.2.2.2.2)
theorem qr_of_min {q : F6} (hp : qf_pdv q) (h : ∀ N, qf_gl N → qf_sum q ≤ qf_sum (qf_trn q N)) : qr_R q := by
  obtain ⟨a, b, c, d, e, f⟩ := q
  have p1 := hp (1, 0, 0) (by decide)
  have p2 := hp (0, 1, 0) (by decide)
  have p3 := hp (0, 0, 1) (by decide)
  have h1 := h ((1, 1, 0), (0, 1, 0), (0, 0, 1)) (Or.inl (by decide))
  have h2 := h ((1, -1, 0), (0, 1, 0), (0, 0, 1)) (Or.inl (by decide))
  have h3 := h ((1, 0, 1), (0, 1, 0), (0, 0, 1)) (Or.inl (by decide))
  have h4 := h ((1, 0, -1), (0, 1, 0), (0, 0, 1)) (Or.inl (by decide))
  have h5 := h ((1, 0, 0), (1, 1, 0), (0, 0, 1)) (Or.inl (by decide))
  have h6 := h ((1, 0, 0), (-1, 1, 0), (0, 0, 1)) (Or.inl (by decide))
  have h7 := h ((1, 0, 0), (0, 1, 1), (0, 0, 1)) (Or.inl (by decide))
  have h8 := h ((1, 0, 0), (0, 1, -1), (0, 0, 1)) (Or.inl (by decide))
  have h9 := h ((1, 0, 0), (0, 1, 0), (1, 0, 1)) (Or.inl (by decide))
  have h10 := h ((1, 0, 0), (0, 1, 0), (-1, 0, 1)) (Or.inl (by decide))
  have h11 := h ((1, 0, 0), (0, 1, 0), (0, 1, 1)) (Or.inl (by decide))
  have h12 := h ((1, 0, 0), (0, 1, 0), (0, -1, 1)) (Or.inl (by decide))
  have h13 := h ((1, 1, 1), (0, 1, 0), (0, 0, 1)) (Or.inl (by decide))
  have h14 := h ((1, 1, -1), (0, 1, 0), (0, 0, 1)) (Or.inl (by decide))
  have h15 := h ((1, -1, 1), (0, 1, 0), (0, 0, 1)) (Or.inl (by decide))
  have h16 := h ((1, -1, -1), (0, 1, 0), (0, 0, 1)) (Or.inl (by decide))
  have h17 := h ((1, 0, 0), (1, 1, 1), (0, 0, 1)) (Or.inl (by decide))
  have h18 := h ((1, 0, 0), (1, 1, -1), (0, 0, 1)) (Or.inl (by decide))
  have h19 := h ((1, 0, 0), (-1, 1, 1), (0, 0, 1)) (Or.inl (by decide))
  have h20 := h ((1, 0, 0), (-1, 1, -1), (0, 0, 1)) (Or.inl (by decide))
  have h21 := h ((1, 0, 0), (0, 1, 0), (1, 1, 1)) (Or.inl (by decide))
  have h22 := h ((1, 0, 0), (0, 1, 0), (1, -1, 1)) (Or.inl (by decide))
  have h23 := h ((1, 0, 0), (0, 1, 0), (-1, 1, 1)) (Or.inl (by decide))
  have h24 := h ((1, 0, 0), (0, 1, 0), (-1, -1, 1)) (Or.inl (by decide))
  simp only [qf_sum, qf_trn, qf_val, qr_R] at *
  refine ⟨by omega, by omega, by omega, by omega, fun u hu => ?_⟩
  rcases hu with hu | hu | hu <;> subst hu <;> omega
theorem qr_sort {q : F6} (h : qr_R q) : ∃ P, qf_gl P ∧ (∀ v, qr_bx v → qr_bx (qf_lin P v)) ∧ qr_S (qf_trn q P) ∧ (qf_trn q P).1 = min q.1 (min q.2.1 q.2.2.1) ∧ (qf_trn q P).2.2.1 = max q.1 (max q.2.1 q.2.2.1) ∧ qf_sum (qf_trn q P) = qf_sum q := by
  obtain ⟨a, b, c, d, e, f⟩ := q
  obtain ⟨h1, h2, h3, h4, h5⟩ := h
  simp only at h1 h2 h3 h4 h5
  have u1 := h5 (a + b) (Or.inl rfl)
  have u2 := h5 (a + c) (Or.inr (Or.inl rfl))
  have u3 := h5 (b + c) (Or.inr (Or.inr rfl))
  clear h5
  have hord : (a ≤ b ∧ b ≤ c) ∨ (a ≤ c ∧ c ≤ b) ∨ (b ≤ a ∧ a ≤ c) ∨ (b ≤ c ∧ c ≤ a) ∨ (c ≤ a ∧ a ≤ b) ∨ (c ≤ b ∧ b ≤ a) := by omega
  rcases hord with g | g | g | g | g | g
  · have e9 : qf_trn (a, b, c, d, e, f) ((1, 0, 0), (0, 1, 0), (0, 0, 1)) = (a, b, c, d, e, f) := by
      simp only [qf_trn, qf_val, qf_tch, Prod.mk.injEq]
      omega
    refine ⟨((1, 0, 0), (0, 1, 0), (0, 0, 1)), Or.inl (by decide), fun v hv => ?_, ?_⟩
    · obtain ⟨x, y, z⟩ := v
      simp only [qr_bx, qf_lin] at *
      omega
    · rw [e9]
      simp only [qr_S, qf_sum, and_true]
      omega
  · have e9 : qf_trn (a, b, c, d, e, f) ((1, 0, 0), (0, 0, 1), (0, 1, 0)) = (a, c, b, d, f, e) := by
      simp only [qf_trn, qf_val, qf_tch, Prod.mk.injEq]
      omega
    refine ⟨((1, 0, 0), (0, 0, 1), (0, 1, 0)), Or.inr (by decide), fun v hv => ?_, ?_⟩
    · obtain ⟨x, y, z⟩ := v
      simp only [qr_bx, qf_lin] at *
      omega
    · rw [e9]
      simp only [qr_S, qf_sum, and_true]
      omega
  · have e9 : qf_trn (a, b, c, d, e, f) ((0, 1, 0), (1, 0, 0), (0, 0, 1)) = (b, a, c, e, d, f) := by
      simp only [qf_trn, qf_val, qf_tch, Prod.mk.injEq]
      omega
    refine ⟨((0, 1, 0), (1, 0, 0), (0, 0, 1)), Or.inr (by decide), fun v hv => ?_, ?_⟩
    · obtain ⟨x, y, z⟩ := v
      simp only [qr_bx, qf_lin] at *
      omega
    · rw [e9]
      simp only [qr_S, qf_sum, and_true]
      omega
  · have e9 : qf_trn (a, b, c, d, e, f) ((0, 1, 0), (0, 0, 1), (1, 0, 0)) = (b, c, a, e, f, d) := by
      simp only [qf_trn, qf_val, qf_tch, Prod.mk.injEq]
      omega
    refine ⟨((0, 1, 0), (0, 0, 1), (1, 0, 0)), Or.inl (by decide), fun v hv => ?_, ?_⟩
    · obtain ⟨x, y, z⟩ := v
      simp only [qr_bx, qf_lin] at *
      omega
    · rw [e9]
      simp only [qr_S, qf_sum, and_true]
      omega
  · have e9 : qf_trn (a, b, c, d, e, f) ((0, 0, 1), (1, 0, 0), (0, 1, 0)) = (c, a, b, f, d, e) := by
      simp only [qf_trn, qf_val, qf_tch, Prod.mk.injEq]
      omega
    refine ⟨((0, 0, 1), (1, 0, 0), (0, 1, 0)), Or.inl (by decide), fun v hv => ?_, ?_⟩
    · obtain ⟨x, y, z⟩ := v
      simp only [qr_bx, qf_lin] at *
      omega
    · rw [e9]
      simp only [qr_S, qf_sum, and_true]
      omega
  · have e9 : qf_trn (a, b, c, d, e, f) ((0, 0, 1), (0, 1, 0), (1, 0, 0)) = (c, b, a, f, e, d) := by
      simp only [qf_trn, qf_val, qf_tch, Prod.mk.injEq]
      omega
    refine ⟨((0, 0, 1), (0, 1, 0), (1, 0, 0)), Or.inr (by decide), fun v hv => ?_, ?_⟩
    · obtain ⟨x, y, z⟩ := v
      simp only [qr_bx, qf_lin] at *
      omega
    · rw [e9]
      simp only [qr_S, qf_sum, and_true]
      omega
theorem qr_ex {q : F6} (hp : qf_pdv q) : ∃ U, qf_gl U ∧ qr_S (qf_trn q U) := by
  obtain ⟨U, hU, hm⟩ := qf_exmin qf_gl (fun U => (qf_sum (qf_trn q U)).toNat) ⟨qf_one, qf_gl_one⟩
  have hp' := qf_pdv_trn hp hU
  have hnn : ∀ N, qf_gl N → 0 < qf_sum (qf_trn q N) := by
    intro N hN
    have hq := qf_pdv_trn hp hN
    have p1 := hq (1, 0, 0) (by decide)
    have p2 := hq (0, 1, 0) (by decide)
    have p3 := hq (0, 0, 1) (by decide)
    generalize qf_trn q N = q' at *
    obtain ⟨a, b, c, d, e, f⟩ := q'
    simp only [qf_val, qf_sum] at *
    omega
  have hR := qr_of_min hp' (fun N hN => by
    rw [qf_trn_trn]
    have g1 := hm _ (qf_gl_mul hN hU)
    have g2 := hnn _ (qf_gl_mul hN hU)
    have g3 := hnn _ hU
    omega)
  obtain ⟨P, hP, _, hS, _⟩ := qr_sort hR
  refine ⟨qf_mul P U, qf_gl_mul hP hU, ?_⟩
  rw [← qf_trn_trn]
  exact hS
