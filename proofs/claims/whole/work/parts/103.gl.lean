/-! tables over a form in order: their values, their numbers -/
theorem qr_unit {n k : Int} (h : n * k = 1 ∨ n * k = -1) : -1 ≤ n ∧ n ≤ 1 := by
  have h1 : n.natAbs * k.natAbs = 1 := by
    rw [← Int.natAbs_mul]
    rcases h with h | h <;> rw [h] <;> rfl
  have h2 := Nat.eq_one_of_mul_eq_one_right h1
  omega
theorem qr_box {q : F6} (h : qr_S q) {M : T9} (hM : qf_gl M) (h1 : qf_val q M.1 = q.1) (h2 : qf_val q M.2.1 = q.2.1) (h3 : qf_val q M.2.2 = q.2.2.1) : qr_bx M.1 ∧ qr_bx M.2.1 ∧ qr_bx M.2.2 := by
  have hab := h.2.1
  have hbc := h.2.2.1
  have k3 : M.2.2.2.2 = 0 → qf_val q M.2.2 ≤ q.2.1 := by
    intro hz
    rcases qf_lg q.2.1 q.2.2.1 with g | g
    · have z1 := qr_not3 h (v := M.1) (by omega)
      have z2 := qr_not3 h (v := M.2.1) (by omega)
      unfold qf_gl qf_det at hM
      rw [z1, z2, hz] at hM
      simp at hM
    · omega
  have key : ∀ v : V3, qf_val q v ≤ q.2.2.1 → (v.2.2 = 0 → qf_val q v ≤ q.2.1) → (v.2.1 = 0 → v.2.2 = 0 → -1 ≤ v.1 ∧ v.1 ≤ 1) → qr_bx v := by
    intro v g1 g2 g3
    by_cases hz : v.2.2 = 0
    · by_cases hy : v.2.1 = 0
      · exact ⟨g3 hy hz, by omega, by omega⟩
      · exact (qr_S2 h hz hy).2 (g2 hz)
    · exact (qr_S3 h hz).2 g1
  obtain ⟨⟨m0, m1, m2⟩, ⟨m3, m4, m5⟩, ⟨m6, m7, m8⟩⟩ := M
  refine ⟨key _ (by omega) (fun _ => by omega) ?_, key _ (by omega) (fun _ => by omega) ?_, key _ (by omega) k3 ?_⟩
  · intro g1 g2
    refine qr_unit (k := m4 * m8 - m5 * m7) ?_
    simp only [qf_gl, qf_det] at hM g1 g2
    subst g1; subst g2
    rcases hM with hM | hM
    · left; grind
    · right; grind
  · intro g1 g2
    refine qr_unit (k := m2 * m7 - m1 * m8) ?_
    simp only [qf_gl, qf_det] at hM g1 g2
    subst g1; subst g2
    rcases hM with hM | hM
    · left; grind
    · right; grind
  · intro g1 g2
    refine qr_unit (k := m1 * m5 - m2 * m4) ?_
    simp only [qf_gl, qf_det] at hM g1 g2
    subst g1; subst g2
    rcases hM with hM | hM
    · left; grind
    · right; grind
def qr_le3 (a b c x y z : Int) : Prop := a < x ∨ (a = x ∧ (b < y ∨ (b = y ∧ c ≤ z)))
theorem qr_rows {M : T9} (h : qf_det M ≠ 0) : M.1 ≠ (0, 0, 0) ∧ M.2.1 ≠ (0, 0, 0) ∧ M.2.2 ≠ (0, 0, 0) := by
  obtain ⟨⟨m0, m1, m2⟩, ⟨m3, m4, m5⟩, ⟨m6, m7, m8⟩⟩ := M
  simp only [qf_det] at h
  refine ⟨fun e => h ?_, fun e => h ?_, fun e => h ?_⟩ <;> simp only [Prod.mk.injEq] at e <;> obtain ⟨e1, e2, e3⟩ := e <;> subst e1 <;> subst e2 <;> subst e3 <;> grind
theorem qf_gl_ne {M : T9} (h : qf_gl M) : qf_det M ≠ 0 := by
  rcases h with h | h <;> omega
theorem qr_min {q : F6} (h : qr_S q) {M : T9} (hM : qf_det M ≠ 0) : qr_le3 q.1 q.2.1 q.2.2.1 (qf_val q M.1) (qf_val q M.2.1) (qf_val q M.2.2) := by
  obtain ⟨r1, r2, r3⟩ := qr_rows hM
  have m1 := qr_S1 h r1
  have m2 := qr_S1 h r2
  have m3 := qr_S1 h r3
  have hab := h.2.1
  have hbc := h.2.2.1
  unfold qr_le3
  rcases qf_lg q.1 (qf_val q M.1) with g | g
  · exact Or.inl g
  · refine Or.inr ⟨by omega, ?_⟩
    have k2 : q.2.1 ≤ qf_val q M.2.1 := by
      rcases qf_lg (qf_val q M.2.1) q.2.1 with g2 | g2
      · exfalso
        have z2 := qr_not2 h g2
        have z1 := qr_not2 h (v := M.1) (by omega)
        apply hM
        unfold qf_det
        rw [z1.1, z1.2, z2.1, z2.2]
        grind
      · exact g2
    rcases qf_lg q.2.1 (qf_val q M.2.1) with g2 | g2
    · exact Or.inl g2
    · refine Or.inr ⟨by omega, ?_⟩
      rcases qf_lg (qf_val q M.2.2) q.2.2.1 with g3 | g3
      · exfalso
        have z3 := qr_not3 h g3
        rcases qf_lg q.2.1 q.2.2.1 with g4 | g4
        · have z1 := qr_not3 h (v := M.1) (by omega)
          have z2 := qr_not3 h (v := M.2.1) (by omega)
          apply hM
          unfold qf_det
          rw [z1, z2, z3]
          grind
        · have z3' := qr_not2 h (v := M.2.2) (by omega)
          have z1 := qr_not2 h (v := M.1) (by omega)
          apply hM
          unfold qf_det
          rw [z1.1, z1.2, z3'.1, z3'.2]
          grind
      · exact g3
/-- of all tables one whose sum of values is least: no sum makes its rows shorter -/
theorem qf_exmin {α : Type} (P : α → Prop) (f : α → Nat) (h : ∃ x, P x) : ∃ x, P x ∧ ∀ y, P y → f x ≤ f y := by
  obtain ⟨x, hx⟩ := h
  generalize hn : f x = n
  induction n using Nat.strongRecOn generalizing x with
  | _ n ih =>
    by_cases g : ∃ y, P y ∧ f y < n
    · obtain ⟨y, hy, hlt⟩ := g
      exact ih (f y) hlt y hy rfl
    · refine ⟨x, hx, fun y hy => ?_⟩
      rcases Nat.lt_or_ge (f y) (f x) with g2 | g2
      · exact absurd ⟨y, hy, by omega⟩ g
      · exact g2
def qf_sum (q : F6) : Int := q.1 + q.2.1 + q.2.2.1
