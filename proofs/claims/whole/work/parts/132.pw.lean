/-! rows of which none gets shorter by one other: how long they are -/
theorem qw_two {a b f x y : Int} (ha : 0 < a) (hab : a ≤ b) (hf : -a ≤ f) (hx : 0 ≤ x) (hy : 0 ≤ y) (h : a * x * x + b * y * y + f * x * y < a) : x = 0 ∧ y = 0 := by
  rcases qf_lg y 1 with g | g
  · have hy0 : y = 0 := by omega
    subst hy0
    have e1 : a * x * x + b * 0 * 0 + f * x * 0 = a * (x * x) := by grind
    refine ⟨?_, rfl⟩
    by_cases hx0 : x = 0
    · exact hx0
    · have := Int.mul_nonneg (Int.le_of_lt ha) (by have := qf_sqp hx0; omega : (0 : Int) ≤ x * x - 1)
      have e2 : a * (x * x - 1) = a * (x * x) - a := by grind
      omega
  · have h9 := (qr_sub2 (b := a) (c := b) (y := x) (z := y) ha hab hx g).1
    have p1 : 0 ≤ (f + a) * (x * y) := Int.mul_nonneg (by omega) (Int.mul_nonneg hx hy)
    have e1 : a * x * x + b * y * y + f * x * y = (b * y * y + a * x * x - a * x * y) + (f + a) * (x * y) := by grind
    omega
theorem qw_nn {a b c d e f x y z : Int} (ha : 0 < a) (hab : a ≤ b) (hbc : b ≤ c) (hf : -a ≤ f) (he : -a ≤ e) (hd : -b ≤ d) (hx : 0 ≤ x) (hy : 0 ≤ y) (hz : 0 ≤ z) : (1 ≤ z → c - a ≤ a * x * x + b * y * y + c * z * z + d * y * z + e * x * z + f * x * y) ∧ (a * x * x + b * y * y + c * z * z + d * y * z + e * x * z + f * x * y < a → x = y ∧ y = z ∧ (1 ≤ x → d < 0 ∧ e < 0 ∧ f < 0)) := by
  obtain ⟨m, hm1, hm2⟩ : ∃ m, 0 ≤ m ∧ (m ≤ x ∧ m ≤ y ∧ m ≤ z ∧ (m = x ∨ m = y ∨ m = z)) := by
    rcases Int.le_total x y with h | h <;> rcases Int.le_total y z with h' | h' <;> rcases Int.le_total x z with h'' | h''
    all_goals first | exact ⟨x, by omega, by omega⟩ | exact ⟨y, by omega, by omega⟩ | exact ⟨z, by omega, by omega⟩
  obtain ⟨u, hu⟩ : ∃ u, x = m + u := ⟨x - m, by omega⟩
  obtain ⟨v, hv⟩ : ∃ v, y = m + v := ⟨y - m, by omega⟩
  obtain ⟨w, hw⟩ : ∃ w, z = m + w := ⟨z - m, by omega⟩
  have e1 : a * x * x + b * y * y + c * z * z + d * y * z + e * x * z + f * x * y = (m * m) * (a + b + c + d + e + f) + m * (u * (2 * a + e + f) + v * (2 * b + d + f) + w * (2 * c + d + e)) + (a * u * u + b * v * v + c * w * w + d * v * w + e * u * w + f * u * v) := by subst hu; subst hv; subst hw; grind
  have p2 : 0 ≤ u * (2 * a + e + f) := Int.mul_nonneg (by omega) (by omega)
  have p3 : 0 ≤ v * (2 * b + d + f) := Int.mul_nonneg (by omega) (by omega)
  have p4 : 0 ≤ w * (2 * c + d + e) := Int.mul_nonneg (by omega) (by omega)
  have p5 : 0 ≤ m * (u * (2 * a + e + f) + v * (2 * b + d + f) + w * (2 * c + d + e)) := Int.mul_nonneg (by omega) (by omega)
  have h9 : u = 0 ∨ v = 0 ∨ w = 0 := by omega
  -- what is left has a place that is 0
  have p6 : 0 ≤ a * u * u + b * v * v + c * w * w + d * v * w + e * u * w + f * u * v ∧ (a * u * u + b * v * v + c * w * w + d * v * w + e * u * w + f * u * v < a → u = 0 ∧ v = 0 ∧ w = 0) ∧ (1 ≤ w → c ≤ a * u * u + b * v * v + c * w * w + d * v * w + e * u * w + f * u * v) := by
    rcases h9 with h9 | h9 | h9
    · have t1 := qr_two (a := b) (b := c) (f := d) (x := v) (y := w) (by omega) hbc hd (by omega) (by omega)
      have e2 : a * u * u + b * v * v + c * w * w + d * v * w + e * u * w + f * u * v = b * v * v + c * w * w + d * v * w := by rw [h9]; grind
      rw [e2]
      refine ⟨t1.1, fun g => ⟨h9, qw_two (a := b) (b := c) (f := d) (by omega) hbc hd (by omega) (by omega) (by omega)⟩, fun g => ?_⟩
      have t2 := (qr_sub2 (b := b) (c := c) (y := v) (z := w) (by omega) hbc (by omega) g).1
      have p1 : 0 ≤ (d + b) * (v * w) := Int.mul_nonneg (by omega) (Int.mul_nonneg (by omega) (by omega))
      have e3 : b * v * v + c * w * w + d * v * w = (c * w * w + b * v * v - b * v * w) + (d + b) * (v * w) := by grind
      omega
    · have t1 := qr_two (a := a) (b := c) (f := e) (x := u) (y := w) (by omega) (by omega) he (by omega) (by omega)
      have e2 : a * u * u + b * v * v + c * w * w + d * v * w + e * u * w + f * u * v = a * u * u + c * w * w + e * u * w := by rw [h9]; grind
      rw [e2]
      refine ⟨t1.1, fun g => ?_, fun g => ?_⟩
      · have t3 := qw_two (a := a) (b := c) (f := e) (x := u) (y := w) (by omega) (by omega) he (by omega) (by omega) g
        exact ⟨t3.1, h9, t3.2⟩
      · have t2 := (qr_sub2 (b := a) (c := c) (y := u) (z := w) (by omega) (by omega) (by omega) g).1
        have p1 : 0 ≤ (e + a) * (u * w) := Int.mul_nonneg (by omega) (Int.mul_nonneg (by omega) (by omega))
        have e3 : a * u * u + c * w * w + e * u * w = (c * w * w + a * u * u - a * u * w) + (e + a) * (u * w) := by grind
        omega
    · have t1 := qr_two (a := a) (b := b) (f := f) (x := u) (y := v) (by omega) (by omega) hf (by omega) (by omega)
      have e2 : a * u * u + b * v * v + c * w * w + d * v * w + e * u * w + f * u * v = a * u * u + b * v * v + f * u * v := by rw [h9]; grind
      rw [e2]
      refine ⟨t1.1, fun g => ?_, fun g => by omega⟩
      have t3 := qw_two (a := a) (b := b) (f := f) (x := u) (y := v) (by omega) (by omega) hf (by omega) (by omega) g
      exact ⟨t3.1, t3.2, h9⟩
  obtain ⟨p6, p7, p8⟩ := p6
  rcases qf_lg 0 m with g | g
  · have q1 : 0 ≤ ((m - 1) * (m + 1)) * (c - a) := Int.mul_nonneg (Int.mul_nonneg (by omega) (by omega)) (by omega)
    have q2 : 0 ≤ (m * m) * (2 * a + b + d + e + f) := Int.mul_nonneg (qf_sq m) (by omega)
    have e4 : (m * m) * (a + b + c + d + e + f) = (c - a) + ((m - 1) * (m + 1)) * (c - a) + (m * m) * (2 * a + b + d + e + f) := by grind
    refine ⟨fun _ => by omega, fun hlt => ?_⟩
    have q3 : 0 ≤ (m * m) * (a + b + c + d + e + f) := by omega
    have q4 := p7 (by omega)
    refine ⟨by omega, by omega, fun _ => ?_⟩
    have q5 : ∀ k : Int, 0 ≤ k → 0 ≤ ((m - 1) * (m + 1)) * k := fun k hk => Int.mul_nonneg (Int.mul_nonneg (by omega) (by omega)) hk
    have q6 := q5 (a + b + c + d + e + f) (by
      rcases qf_lg (a + b + c + d + e + f) 0 with t | t
      · have := Int.mul_nonneg (qf_sq m) (by omega : (0 : Int) ≤ -1 - (a + b + c + d + e + f))
        have e5 : (m * m) * (-1 - (a + b + c + d + e + f)) = -(m * m) - (m * m) * (a + b + c + d + e + f) := by grind
        have := Int.mul_pos g g
        omega
      · exact t)
    have e6 : (m * m) * (a + b + c + d + e + f) = (a + b + c + d + e + f) + ((m - 1) * (m + 1)) * (a + b + c + d + e + f) := by grind
    omega
  · have hm0 : m = 0 := by omega
    subst hm0
    simp only [Int.zero_mul, Int.zero_add, Int.mul_zero] at *
    refine ⟨fun hz1 => ?_, fun hlt => ?_⟩
    · have := p8 (by omega)
      omega
    · have := p7 (by omega)
      omega
def pw_S (q : F6) : Prop := 0 < q.1 ∧ q.1 ≤ q.2.1 ∧ q.2.1 ≤ q.2.2.1 ∧ (-q.1 ≤ q.2.2.2.2.2 ∧ q.2.2.2.2.2 ≤ q.1) ∧ (-q.1 ≤ q.2.2.2.2.1 ∧ q.2.2.2.2.1 ≤ q.1) ∧ (-q.2.1 ≤ q.2.2.2.1 ∧ q.2.2.2.1 ≤ q.2.1)
theorem pw_v {q : F6} (h : pw_S q) (v : V3) : (v.2.2 ≠ 0 → q.2.2.1 - q.1 ≤ qf_val q v) ∧ (qf_val q v < q.1 → (v.1 = 0 ∧ v.2.1 = 0 ∧ v.2.2 = 0) ∨ ((q.2.2.2.2.2 < 0 ∧ v.2.1 = v.1) ∨ (0 < q.2.2.2.2.2 ∧ v.2.1 = -v.1)) ∧ ((q.2.2.2.2.1 < 0 ∧ v.2.2 = v.1) ∨ (0 < q.2.2.2.2.1 ∧ v.2.2 = -v.1))) := by
  obtain ⟨a, b, c, d, e, f⟩ := q
  obtain ⟨x, y, z⟩ := v
  simp only [pw_S, qf_val] at *
  obtain ⟨ha, hab, hbc, hf, he, hd⟩ := h
  rcases Int.le_total 0 x with gx | gx <;> rcases Int.le_total 0 y with gy | gy <;> rcases Int.le_total 0 z with gz | gz
  · have h9 := qw_nn (d := d) (e := e) (f := f) (x := x) (y := y) (z := z) ha hab hbc (by omega) (by omega) (by omega) (by omega) (by omega) (by omega)
    have e9 : a * x * x + b * y * y + c * z * z + d * y * z + e * x * z + f * x * y = a * x * x + b * y * y + c * z * z + d * y * z + e * x * z + f * x * y := by grind
    rw [e9] at h9
    refine ⟨fun g => h9.1 (by omega), fun g => ?_⟩
    have := h9.2 g
    omega
  · have h9 := qw_nn (d := -d) (e := -e) (f := f) (x := x) (y := y) (z := -z) ha hab hbc (by omega) (by omega) (by omega) (by omega) (by omega) (by omega)
    have e9 : a * x * x + b * y * y + c * -z * -z + -d * y * -z + -e * x * -z + f * x * y = a * x * x + b * y * y + c * z * z + d * y * z + e * x * z + f * x * y := by grind
    rw [e9] at h9
    refine ⟨fun g => h9.1 (by omega), fun g => ?_⟩
    have := h9.2 g
    omega
  · have h9 := qw_nn (d := -d) (e := e) (f := -f) (x := x) (y := -y) (z := z) ha hab hbc (by omega) (by omega) (by omega) (by omega) (by omega) (by omega)
    have e9 : a * x * x + b * -y * -y + c * z * z + -d * -y * z + e * x * z + -f * x * -y = a * x * x + b * y * y + c * z * z + d * y * z + e * x * z + f * x * y := by grind
    rw [e9] at h9
    refine ⟨fun g => h9.1 (by omega), fun g => ?_⟩
    have := h9.2 g
    omega
  · have h9 := qw_nn (d := d) (e := -e) (f := -f) (x := x) (y := -y) (z := -z) ha hab hbc (by omega) (by omega) (by omega) (by omega) (by omega) (by omega)
    have e9 : a * x * x + b * -y * -y + c * -z * -z + d * -y * -z + -e * x * -z + -f * x * -y = a * x * x + b * y * y + c * z * z + d * y * z + e * x * z + f * x * y := by grind
    rw [e9] at h9
    refine ⟨fun g => h9.1 (by omega), fun g => ?_⟩
    have := h9.2 g
    omega
  · have h9 := qw_nn (d := d) (e := -e) (f := -f) (x := -x) (y := y) (z := z) ha hab hbc (by omega) (by omega) (by omega) (by omega) (by omega) (by omega)
    have e9 : a * -x * -x + b * y * y + c * z * z + d * y * z + -e * -x * z + -f * -x * y = a * x * x + b * y * y + c * z * z + d * y * z + e * x * z + f * x * y := by grind
    rw [e9] at h9
    refine ⟨fun g => h9.1 (by omega), fun g => ?_⟩
    have := h9.2 g
    omega
  · have h9 := qw_nn (d := -d) (e := e) (f := -f) (x := -x) (y := y) (z := -z) ha hab hbc (by omega) (by omega) (by omega) (by omega) (by omega) (by omega)
    have e9 : a * -x * -x + b * y * y + c * -z * -z + -d * y * -z + e * -x * -z + -f * -x * y = a * x * x + b * y * y + c * z * z + d * y * z + e * x * z + f * x * y := by grind
    rw [e9] at h9
    refine ⟨fun g => h9.1 (by omega), fun g => ?_⟩
    have := h9.2 g
    omega
  · have h9 := qw_nn (d := -d) (e := -e) (f := f) (x := -x) (y := -y) (z := z) ha hab hbc (by omega) (by omega) (by omega) (by omega) (by omega) (by omega)
    have e9 : a * -x * -x + b * -y * -y + c * z * z + -d * -y * z + -e * -x * z + f * -x * -y = a * x * x + b * y * y + c * z * z + d * y * z + e * x * z + f * x * y := by grind
    rw [e9] at h9
    refine ⟨fun g => h9.1 (by omega), fun g => ?_⟩
    have := h9.2 g
    omega
  · have h9 := qw_nn (d := d) (e := e) (f := f) (x := -x) (y := -y) (z := -z) ha hab hbc (by omega) (by omega) (by omega) (by omega) (by omega) (by omega)
    have e9 : a * -x * -x + b * -y * -y + c * -z * -z + d * -y * -z + e * -x * -z + f * -x * -y = a * x * x + b * y * y + c * z * z + d * y * z + e * x * z + f * x * y := by grind
    rw [e9] at h9
    refine ⟨fun g => h9.1 (by omega), fun g => ?_⟩
    have := h9.2 g
    omega
theorem pw_sort {q : F6} (h : pw_ q) : ∃ P, qf_gl P ∧ pw_S (qf_trn q P) ∧ q.1 ≤ (qf_trn q P).2.2.1 ∧ q.2.1 ≤ (qf_trn q P).2.2.1 ∧ q.2.2.1 ≤ (qf_trn q P).2.2.1 := by
  obtain ⟨a, b, c, d, e, f⟩ := q
  obtain ⟨h1, h2, h3, h4⟩ := h
  simp only at h1 h2 h3 h4
  have hord : (a ≤ b ∧ b ≤ c) ∨ (a ≤ c ∧ c ≤ b) ∨ (b ≤ a ∧ a ≤ c) ∨ (b ≤ c ∧ c ≤ a) ∨ (c ≤ a ∧ a ≤ b) ∨ (c ≤ b ∧ b ≤ a) := by omega
  rcases hord with g | g | g | g | g | g
  · have e9 : qf_trn (a, b, c, d, e, f) ((1, 0, 0), (0, 1, 0), (0, 0, 1)) = (a, b, c, d, e, f) := by
      simp only [qf_trn, qf_val, qf_tch, Prod.mk.injEq]
      omega
    refine ⟨((1, 0, 0), (0, 1, 0), (0, 0, 1)), Or.inl (by decide), ?_⟩
    rw [e9]
    simp only [pw_S]
    omega
  · have e9 : qf_trn (a, b, c, d, e, f) ((1, 0, 0), (0, 0, 1), (0, 1, 0)) = (a, c, b, d, f, e) := by
      simp only [qf_trn, qf_val, qf_tch, Prod.mk.injEq]
      omega
    refine ⟨((1, 0, 0), (0, 0, 1), (0, 1, 0)), Or.inr (by decide), ?_⟩
    rw [e9]
    simp only [pw_S]
    omega
  · have e9 : qf_trn (a, b, c, d, e, f) ((0, 1, 0), (1, 0, 0), (0, 0, 1)) = (b, a, c, e, d, f) := by
      simp only [qf_trn, qf_val, qf_tch, Prod.mk.injEq]
      omega
    refine ⟨((0, 1, 0), (1, 0, 0), (0, 0, 1)), Or.inr (by decide), ?_⟩
    rw [e9]
    simp only [pw_S]
    omega
  · have e9 : qf_trn (a, b, c, d, e, f) ((0, 1, 0), (0, 0, 1), (1, 0, 0)) = (b, c, a, e, f, d) := by
      simp only [qf_trn, qf_val, qf_tch, Prod.mk.injEq]
      omega
    refine ⟨((0, 1, 0), (0, 0, 1), (1, 0, 0)), Or.inl (by decide), ?_⟩
    rw [e9]
    simp only [pw_S]
    omega
  · have e9 : qf_trn (a, b, c, d, e, f) ((0, 0, 1), (1, 0, 0), (0, 1, 0)) = (c, a, b, f, d, e) := by
      simp only [qf_trn, qf_val, qf_tch, Prod.mk.injEq]
      omega
    refine ⟨((0, 0, 1), (1, 0, 0), (0, 1, 0)), Or.inl (by decide), ?_⟩
    rw [e9]
    simp only [pw_S]
    omega
  · have e9 : qf_trn (a, b, c, d, e, f) ((0, 0, 1), (0, 1, 0), (1, 0, 0)) = (c, b, a, f, e, d) := by
      simp only [qf_trn, qf_val, qf_tch, Prod.mk.injEq]
      omega
    refine ⟨((0, 0, 1), (0, 1, 0), (1, 0, 0)), Or.inr (by decide), ?_⟩
    rw [e9]
    simp only [pw_S]
    omega
theorem pw_max {q : F6} (h : pw_S q) {U : T9} (hU : qf_gl U) (hS : qr_S (qf_trn q U)) : q.2.2.1 ≤ 2 * (qf_trn q U).2.2.1 := by
  have hab := hS.2.1
  have hbc := hS.2.2.1
  have v1 := pw_v h U.1
  have v2 := pw_v h U.2.1
  have v3 := pw_v h U.2.2
  have w1 : qf_val q U.1 ≤ (qf_trn q U).2.2.1 := Int.le_trans hab hbc
  have w2 : qf_val q U.2.1 ≤ (qf_trn q U).2.2.1 := hbc
  have w3 : qf_val q U.2.2 ≤ (qf_trn q U).2.2.1 := Int.le_refl _
  have hdet := qf_gl_ne hU
  have k1 : q.2.2.1 - q.1 ≤ (qf_trn q U).2.2.1 := by
    by_cases z1 : U.1.2.2 = 0
    · by_cases z2 : U.2.1.2.2 = 0
      · by_cases z3 : U.2.2.2.2 = 0
        · exfalso
          apply hdet
          unfold qf_det
          rw [z1, z2, z3]
          grind
        · have := v3.1 z3; omega
      · have := v2.1 z2; omega
    · have := v1.1 z1; omega
  have k2 : q.1 ≤ (qf_trn q U).2.2.1 := by
    rcases qf_lg (qf_val q U.1) q.1 with g1 | g1
    · rcases qf_lg (qf_val q U.2.1) q.1 with g2 | g2
      · exfalso
        have a1 := v1.2 g1
        have a2 := v2.2 g2
        apply hdet
        obtain ⟨⟨m0, m1, m2⟩, ⟨m3, m4, m5⟩, ⟨m6, m7, m8⟩⟩ := U
        simp only [qf_det] at *
        clear v1 v2 v3 w1 w2 w3 k1 hab hbc hS hU hdet g1 g2
        generalize q.2.2.2.2.2 = f at *
        generalize q.2.2.2.2.1 = e at *
        rcases a1 with ⟨r1, r2, r3⟩ | ⟨r1 | r1, r2 | r2⟩ <;> rcases a2 with ⟨s1, s2, s3⟩ | ⟨s1 | s1, s2 | s2⟩ <;> first | (exfalso; omega) | grind
      · omega
    · omega
  omega
theorem pw_bnd {q : F6} (hp : qf_pd q) (h : pw_ q) (hD : qf_disc q ≤ 6912) : ∃ U, qf_gl U ∧ qr_S (qf_trn q U) ∧ (qf_trn q U).2.2.1 ≤ qf_disc q ∧ q.1 ≤ 2 * (qf_trn q U).2.2.1 ∧ q.2.1 ≤ 2 * (qf_trn q U).2.2.1 ∧ q.2.2.1 ≤ 2 * (qf_trn q U).2.2.1 := by
  obtain ⟨P, hP, hS, m1, m2, m3⟩ := pw_sort h
  obtain ⟨U, hU, hSU⟩ := qr_ex (qf_pdv_of (qf_pd_trn hp hP))
  have hb := pw_max hS hU hSU
  have habc := qr_abc hSU
  have hdisc : qf_disc (qf_trn (qf_trn q P) U) = qf_disc q := by rw [qf_disc_trn, qf_disc_trn, qf_gl_sq hU, qf_gl_sq hP, Int.one_mul, Int.one_mul]
  rw [hdisc] at habc
  rw [qf_trn_trn] at hSU hb habc
  refine ⟨qf_mul U P, qf_gl_mul hU hP, hSU, ?_, by omega, by omega, by omega⟩
  have ha := hSU.1
  have hab := hSU.2.1
  have hbc := hSU.2.2.1
  generalize qf_trn q (qf_mul U P) = r at *
  have p1 : 0 < r.1 * r.2.1 := Int.mul_pos ha (by omega)
  have p2 : 0 ≤ (r.1 * r.2.1 - 1) * r.2.2.1 := Int.mul_nonneg (by omega) (by omega)
  have e1 : (r.1 * r.2.1 - 1) * r.2.2.1 = r.1 * r.2.1 * r.2.2.1 - r.2.2.1 := by grind
  omega
