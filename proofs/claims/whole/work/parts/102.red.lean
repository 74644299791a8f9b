/-! forms that no sum of rows makes shorter -/
theorem qr_sub2 {b c y z : Int} (hb : 0 < b) (hbc : b ≤ c) (hy : 0 ≤ y) (hz : 1 ≤ z) : c ≤ c * z * z + b * y * y - b * y * z ∧ (c * z * z + b * y * y - b * y * z ≤ c → y ≤ 1 ∧ z = 1) := by
  rcases Int.le_total y z with h | h
  · obtain ⟨k, hk⟩ : ∃ k, z = y + k := ⟨z - y, by omega⟩
    have hk0 : 0 ≤ k := by omega
    have p1 : 0 ≤ y * k := Int.mul_nonneg hy hk0
    have p2 := qf_sq y
    have p3 := qf_sq k
    have p4 : 0 ≤ (c - b) * (y * k) := Int.mul_nonneg (by omega) p1
    have p5 : 1 ≤ y * y + y * k + k * k := by
      rcases qf_lg 0 y with g | g
      · have := Int.mul_pos g g; omega
      · have : 0 < k * k := Int.mul_pos (by omega) (by omega)
        omega
    have e1 : c * z * z + b * y * y - b * y * z = (c - b) * (y * k) + c * (y * y + y * k + k * k) := by subst hk; grind
    have p6 : 0 ≤ c * (y * y + y * k + k * k - 1) := Int.mul_nonneg (by omega) (by omega)
    have e2 : c * (y * y + y * k + k * k - 1) = c * (y * y + y * k + k * k) - c := by grind
    refine ⟨by omega, fun hle => ?_⟩
    have p7 : y * y + y * k + k * k ≤ 1 := by
      rcases qf_lg 1 (y * y + y * k + k * k) with g | g
      · have : 0 < c * (y * y + y * k + k * k - 1) := Int.mul_pos (by omega) (by omega)
        omega
      · exact g
    have py : y ≤ 1 := by
      rcases qf_lg 1 y with g | g
      · have : 0 ≤ (y - 1) * y := Int.mul_nonneg (by omega) (by omega)
        have e3 : (y - 1) * y = y * y - y := by grind
        omega
      · exact g
    have pk : k ≤ 1 := by
      rcases qf_lg 1 k with g | g
      · have : 0 ≤ (k - 1) * k := Int.mul_nonneg (by omega) (by omega)
        have e3 : (k - 1) * k = k * k - k := by grind
        omega
      · exact g
    have : y = 0 ∨ y = 1 := by omega
    have : k = 0 ∨ k = 1 := by omega
    refine ⟨py, ?_⟩
    rcases ‹y = 0 ∨ y = 1› with h1 | h1 <;> rcases ‹k = 0 ∨ k = 1› with h2 | h2 <;> subst h1 <;> subst h2 <;> omega
  · have p1 : 0 ≤ b * (y * (y - z)) := Int.mul_nonneg (by omega) (Int.mul_nonneg hy (by omega))
    have p2 : 0 ≤ c * ((z - 1) * (z + 1)) := Int.mul_nonneg (by omega) (Int.mul_nonneg (by omega) (by omega))
    have e1 : c * z * z + b * y * y - b * y * z = c + c * ((z - 1) * (z + 1)) + b * (y * (y - z)) := by grind
    refine ⟨by omega, fun hle => ?_⟩
    have q1 : z = 1 := by
      rcases qf_lg 1 z with g | g
      · have : 0 < c * ((z - 1) * (z + 1)) := Int.mul_pos (by omega) (Int.mul_pos (by omega) (by omega))
        omega
      · omega
    have q2 : y = z := by
      rcases qf_lg z y with g | g
      · have : 0 < b * (y * (y - z)) := Int.mul_pos (by omega) (Int.mul_pos (by omega) (by omega))
        omega
      · omega
    omega
theorem qr_two {a b f x y : Int} (ha : 0 < a) (hab : a ≤ b) (hf : -a ≤ f) (hx : 0 ≤ x) (hy : 0 ≤ y) : 0 ≤ a * x * x + b * y * y + f * x * y ∧ (a * x * x + b * y * y + f * x * y ≤ 0 → x = 0 ∧ y = 0) := by
  have p1 : 0 ≤ (f + a) * (x * y) := Int.mul_nonneg (by omega) (Int.mul_nonneg hx hy)
  have p2 : 0 ≤ (b - a) * (y * y) := Int.mul_nonneg (by omega) (qf_sq y)
  have p3 : 0 ≤ a * ((x - y) * (x - y)) := Int.mul_nonneg (by omega) (qf_sq _)
  have p4 : 0 ≤ a * (x * x) := Int.mul_nonneg (by omega) (qf_sq _)
  have p5 : 0 ≤ a * (y * y) := Int.mul_nonneg (by omega) (qf_sq _)
  have e1 : 2 * (a * x * x + b * y * y + f * x * y) = a * ((x - y) * (x - y)) + a * (x * x) + a * (y * y) + 2 * ((b - a) * (y * y)) + 2 * ((f + a) * (x * y)) := by grind
  refine ⟨by omega, fun hle => ?_⟩
  constructor
  · by_cases h : x = 0
    · exact h
    · have := Int.mul_pos ha (qf_sqp h); omega
  · by_cases h : y = 0
    · exact h
    · have := Int.mul_pos ha (qf_sqp h); omega
/-- rows without a number below 0 -/
theorem qr_nn {a b c d e f x y z : Int} (ha : 0 < a) (hab : a ≤ b) (hbc : b ≤ c) (hf : -a ≤ f) (he : -a ≤ e) (hd : -b ≤ d) (hs : 0 ≤ a + b + d + e + f) (hx : 0 ≤ x) (hy : 0 ≤ y) (hz : 1 ≤ z) : c ≤ a * x * x + b * y * y + c * z * z + d * y * z + e * x * z + f * x * y ∧ (a * x * x + b * y * y + c * z * z + d * y * z + e * x * z + f * x * y ≤ c → x ≤ 1 ∧ y ≤ 1 ∧ z = 1) := by
  rcases qf_lg 0 x with gx | gx
  · rcases qf_lg 0 y with gy | gy
    · -- all above 0
      obtain ⟨m, hm1, hm2⟩ : ∃ m, 1 ≤ m ∧ (m ≤ x ∧ m ≤ y ∧ m ≤ z ∧ (m = x ∨ m = y ∨ m = z)) := by
        rcases Int.le_total x y with h | h <;> rcases Int.le_total y z with h' | h' <;> rcases Int.le_total x z with h'' | h''
        all_goals first | exact ⟨x, by omega, by omega⟩ | exact ⟨y, by omega, by omega⟩ | exact ⟨z, by omega, by omega⟩
      obtain ⟨u, hu⟩ : ∃ u, x = m + u := ⟨x - m, by omega⟩
      obtain ⟨v, hv⟩ : ∃ v, y = m + v := ⟨y - m, by omega⟩
      obtain ⟨w, hw⟩ : ∃ w, z = m + w := ⟨z - m, by omega⟩
      have e1 : a * x * x + b * y * y + c * z * z + d * y * z + e * x * z + f * x * y = c + ((m - 1) * (m + 1)) * c + (m * m) * (a + b + d + e + f) + m * (u * (2 * a + e + f) + v * (2 * b + d + f) + w * (2 * c + d + e)) + (a * u * u + b * v * v + c * w * w + d * v * w + e * u * w + f * u * v) := by subst hu; subst hv; subst hw; grind
      have p0 : 0 ≤ ((m - 1) * (m + 1)) * c := Int.mul_nonneg (Int.mul_nonneg (by omega) (by omega)) (by omega)
      have p1 : 0 ≤ (m * m) * (a + b + d + e + f) := Int.mul_nonneg (qf_sq m) hs
      have p2 : 0 ≤ u * (2 * a + e + f) := Int.mul_nonneg (by omega) (by omega)
      have p3 : 0 ≤ v * (2 * b + d + f) := Int.mul_nonneg (by omega) (by omega)
      have p4 : 0 ≤ w * (2 * c + d + e) := Int.mul_nonneg (by omega) (by omega)
      have p5 : 0 ≤ m * (u * (2 * a + e + f) + v * (2 * b + d + f) + w * (2 * c + d + e)) := Int.mul_nonneg (by omega) (by omega)
      have p6 : 0 ≤ a * u * u + b * v * v + c * w * w + d * v * w + e * u * w + f * u * v ∧ (a * u * u + b * v * v + c * w * w + d * v * w + e * u * w + f * u * v ≤ 0 → u = 0 ∧ v = 0 ∧ w = 0) := by
        have h9 : u = 0 ∨ v = 0 ∨ w = 0 := by omega
        rcases h9 with h9 | h9 | h9
        · have := qr_two (a := b) (b := c) (f := d) (x := v) (y := w) (by omega) hbc hd (by omega) (by omega)
          have e2 : a * u * u + b * v * v + c * w * w + d * v * w + e * u * w + f * u * v = b * v * v + c * w * w + d * v * w := by rw [h9]; grind
          rw [e2]
          exact ⟨this.1, fun g => ⟨h9, this.2 g⟩⟩
        · have := qr_two (a := a) (b := c) (f := e) (x := u) (y := w) (by omega) (by omega) he (by omega) (by omega)
          have e2 : a * u * u + b * v * v + c * w * w + d * v * w + e * u * w + f * u * v = a * u * u + c * w * w + e * u * w := by rw [h9]; grind
          rw [e2]
          exact ⟨this.1, fun g => ⟨(this.2 g).1, h9, (this.2 g).2⟩⟩
        · have := qr_two (a := a) (b := b) (f := f) (x := u) (y := v) (by omega) (by omega) hf (by omega) (by omega)
          have e2 : a * u * u + b * v * v + c * w * w + d * v * w + e * u * w + f * u * v = a * u * u + b * v * v + f * u * v := by rw [h9]; grind
          rw [e2]
          exact ⟨this.1, fun g => ⟨(this.2 g).1, (this.2 g).2, h9⟩⟩
      obtain ⟨p6, p7⟩ := p6
      refine ⟨by omega, fun hle => ?_⟩
      have q1 : m = 1 := by
        rcases qf_lg 1 m with g | g
        · have : 0 < ((m - 1) * (m + 1)) * c := Int.mul_pos (Int.mul_pos (by omega) (by omega)) (by omega)
          omega
        · omega
      have q2 := p7 (by omega)
      omega
    · have hy0 : y = 0 := by omega
      have h9 := qr_sub2 (b := a) (c := c) (y := x) (z := z) ha (by omega) hx hz
      have p1 : 0 ≤ (e + a) * (x * z) := Int.mul_nonneg (by omega) (Int.mul_nonneg hx (by omega))
      have e1 : a * x * x + b * y * y + c * z * z + d * y * z + e * x * z + f * x * y = (c * z * z + a * x * x - a * x * z) + (e + a) * (x * z) := by rw [hy0]; grind
      refine ⟨by omega, fun hle => ?_⟩
      have := h9.2 (by omega)
      omega
  · have hx0 : x = 0 := by omega
    have h9 := qr_sub2 (b := b) (c := c) (y := y) (z := z) (by omega) hbc hy hz
    have p1 : 0 ≤ (d + b) * (y * z) := Int.mul_nonneg (by omega) (Int.mul_nonneg hy (by omega))
    have e1 : a * x * x + b * y * y + c * z * z + d * y * z + e * x * z + f * x * y = (c * z * z + b * y * y - b * y * z) + (d + b) * (y * z) := by rw [hx0]; grind
    refine ⟨by omega, fun hle => ?_⟩
    have := h9.2 (by omega)
    omega
/-- a form with a, b, c in their order that no sum makes shorter -/
def qr_S (q : F6) : Prop := 0 < q.1 ∧ q.1 ≤ q.2.1 ∧ q.2.1 ≤ q.2.2.1 ∧ (-q.1 ≤ q.2.2.2.2.2 ∧ q.2.2.2.2.2 ≤ q.1) ∧ (-q.1 ≤ q.2.2.2.2.1 ∧ q.2.2.2.2.1 ≤ q.1) ∧ (-q.2.1 ≤ q.2.2.2.1 ∧ q.2.2.2.1 ≤ q.2.1) ∧ 0 ≤ q.1 + q.2.1 + q.2.2.2.1 + q.2.2.2.2.1 + q.2.2.2.2.2 ∧ 0 ≤ q.1 + q.2.1 - q.2.2.2.1 - q.2.2.2.2.1 + q.2.2.2.2.2 ∧ 0 ≤ q.1 + q.2.1 - q.2.2.2.1 + q.2.2.2.2.1 - q.2.2.2.2.2 ∧ 0 ≤ q.1 + q.2.1 + q.2.2.2.1 - q.2.2.2.2.1 - q.2.2.2.2.2
def qr_bx (v : V3) : Prop := (-1 ≤ v.1 ∧ v.1 ≤ 1) ∧ (-1 ≤ v.2.1 ∧ v.2.1 ≤ 1) ∧ (-1 ≤ v.2.2 ∧ v.2.2 ≤ 1)
theorem qr_S3 {q : F6} (h : qr_S q) {v : V3} (hz : v.2.2 ≠ 0) : q.2.2.1 ≤ qf_val q v ∧ (qf_val q v ≤ q.2.2.1 → qr_bx v) := by
  obtain ⟨a, b, c, d, e, f⟩ := q
  obtain ⟨x, y, z⟩ := v
  simp only [qr_S, qf_val, qr_bx] at *
  obtain ⟨ha, hab, hbc, hf, he, hd, s1, s2, s3, s4⟩ := h
  rcases Int.le_total 0 x with gx | gx <;> rcases Int.le_total 0 y with gy | gy <;> rcases Int.lt_or_gt_of_ne hz with gz | gz
  · have h9 := qr_nn (d := -d) (e := -e) (f := f) (x := x) (y := y) (z := -z) ha hab hbc (by omega) (by omega) (by omega) (by omega) (by omega) (by omega) (by omega)
    have e9 : a * x * x + b * y * y + c * -z * -z + -d * y * -z + -e * x * -z + f * x * y = a * x * x + b * y * y + c * z * z + d * y * z + e * x * z + f * x * y := by grind
    rw [e9] at h9
    exact ⟨h9.1, fun g => by have := h9.2 g; omega⟩
  · have h9 := qr_nn (d := d) (e := e) (f := f) (x := x) (y := y) (z := z) ha hab hbc (by omega) (by omega) (by omega) (by omega) (by omega) (by omega) (by omega)
    exact ⟨h9.1, fun g => by have := h9.2 g; omega⟩
  · have h9 := qr_nn (d := d) (e := -e) (f := -f) (x := x) (y := -y) (z := -z) ha hab hbc (by omega) (by omega) (by omega) (by omega) (by omega) (by omega) (by omega)
    have e9 : a * x * x + b * -y * -y + c * -z * -z + d * -y * -z + -e * x * -z + -f * x * -y = a * x * x + b * y * y + c * z * z + d * y * z + e * x * z + f * x * y := by grind
    rw [e9] at h9
    exact ⟨h9.1, fun g => by have := h9.2 g; omega⟩
  · have h9 := qr_nn (d := -d) (e := e) (f := -f) (x := x) (y := -y) (z := z) ha hab hbc (by omega) (by omega) (by omega) (by omega) (by omega) (by omega) (by omega)
    have e9 : a * x * x + b * -y * -y + c * z * z + -d * -y * z + e * x * z + -f * x * -y = a * x * x + b * y * y + c * z * z + d * y * z + e * x * z + f * x * y := by grind
    rw [e9] at h9
    exact ⟨h9.1, fun g => by have := h9.2 g; omega⟩
  · have h9 := qr_nn (d := -d) (e := e) (f := -f) (x := -x) (y := y) (z := -z) ha hab hbc (by omega) (by omega) (by omega) (by omega) (by omega) (by omega) (by omega)
    have e9 : a * -x * -x + b * y * y + c * -z * -z + -d * y * -z + e * -x * -z + -f * -x * y = a * x * x + b * y * y + c * z * z + d * y * z + e * x * z + f * x * y := by grind
    rw [e9] at h9
    exact ⟨h9.1, fun g => by have := h9.2 g; omega⟩
  · have h9 := qr_nn (d := d) (e := -e) (f := -f) (x := -x) (y := y) (z := z) ha hab hbc (by omega) (by omega) (by omega) (by omega) (by omega) (by omega) (by omega)
    have e9 : a * -x * -x + b * y * y + c * z * z + d * y * z + -e * -x * z + -f * -x * y = a * x * x + b * y * y + c * z * z + d * y * z + e * x * z + f * x * y := by grind
    rw [e9] at h9
    exact ⟨h9.1, fun g => by have := h9.2 g; omega⟩
  · have h9 := qr_nn (d := d) (e := e) (f := f) (x := -x) (y := -y) (z := -z) ha hab hbc (by omega) (by omega) (by omega) (by omega) (by omega) (by omega) (by omega)
    have e9 : a * -x * -x + b * -y * -y + c * -z * -z + d * -y * -z + e * -x * -z + f * -x * -y = a * x * x + b * y * y + c * z * z + d * y * z + e * x * z + f * x * y := by grind
    rw [e9] at h9
    exact ⟨h9.1, fun g => by have := h9.2 g; omega⟩
  · have h9 := qr_nn (d := -d) (e := -e) (f := f) (x := -x) (y := -y) (z := z) ha hab hbc (by omega) (by omega) (by omega) (by omega) (by omega) (by omega) (by omega)
    have e9 : a * -x * -x + b * -y * -y + c * z * z + -d * -y * z + -e * -x * z + f * -x * -y = a * x * x + b * y * y + c * z * z + d * y * z + e * x * z + f * x * y := by grind
    rw [e9] at h9
    exact ⟨h9.1, fun g => by have := h9.2 g; omega⟩
theorem qr_S2 {q : F6} (h : qr_S q) {v : V3} (hz : v.2.2 = 0) (hy : v.2.1 ≠ 0) : q.2.1 ≤ qf_val q v ∧ (qf_val q v ≤ q.2.1 → qr_bx v) := by
  obtain ⟨a, b, c, d, e, f⟩ := q
  obtain ⟨x, y, z⟩ := v
  simp only [qr_S, qf_val, qr_bx] at *
  obtain ⟨ha, hab, hbc, hf, he, hd, s1, s2, s3, s4⟩ := h
  subst hz
  rcases Int.le_total 0 x with gx | gx <;> rcases Int.lt_or_gt_of_ne hy with gy | gy
  · have h9 := qr_sub2 (b := a) (c := b) (y := x) (z := -y) ha hab (by omega) (by omega)
    have p1 : 0 ≤ (a - f) * (x * -y) := Int.mul_nonneg (by omega) (Int.mul_nonneg gx (by omega))
    have e9 : a * x * x + b * y * y + c * 0 * 0 + d * y * 0 + e * x * 0 + f * x * y = (b * -y * -y + a * x * x - a * x * -y) + (a - f) * (x * -y) := by grind
    refine ⟨by omega, fun g => ?_⟩
    have := h9.2 (by omega)
    omega
  · have h9 := qr_sub2 (b := a) (c := b) (y := x) (z := y) ha hab (by omega) (by omega)
    have p1 : 0 ≤ (a + f) * (x * y) := Int.mul_nonneg (by omega) (Int.mul_nonneg gx (by omega))
    have e9 : a * x * x + b * y * y + c * 0 * 0 + d * y * 0 + e * x * 0 + f * x * y = (b * y * y + a * x * x - a * x * y) + (a + f) * (x * y) := by grind
    refine ⟨by omega, fun g => ?_⟩
    have := h9.2 (by omega)
    omega
  · have h9 := qr_sub2 (b := a) (c := b) (y := -x) (z := -y) ha hab (by omega) (by omega)
    have p1 : 0 ≤ (a + f) * (-x * -y) := Int.mul_nonneg (by omega) (Int.mul_nonneg (by omega) (by omega))
    have e9 : a * x * x + b * y * y + c * 0 * 0 + d * y * 0 + e * x * 0 + f * x * y = (b * -y * -y + a * -x * -x - a * -x * -y) + (a + f) * (-x * -y) := by grind
    refine ⟨by omega, fun g => ?_⟩
    have := h9.2 (by omega)
    omega
  · have h9 := qr_sub2 (b := a) (c := b) (y := -x) (z := y) ha hab (by omega) (by omega)
    have p1 : 0 ≤ (a - f) * (-x * y) := Int.mul_nonneg (by omega) (Int.mul_nonneg (by omega) (by omega))
    have e9 : a * x * x + b * y * y + c * 0 * 0 + d * y * 0 + e * x * 0 + f * x * y = (b * y * y + a * -x * -x - a * -x * y) + (a - f) * (-x * y) := by grind
    refine ⟨by omega, fun g => ?_⟩
    have := h9.2 (by omega)
    omega
theorem qr_S1 {q : F6} (h : qr_S q) {v : V3} (hv : v ≠ (0, 0, 0)) : q.1 ≤ qf_val q v := by
  have h3 := fun g => (qr_S3 h (v := v) g).1
  have h2 := fun g1 g2 => (qr_S2 h (v := v) g1 g2).1
  obtain ⟨a, b, c, d, e, f⟩ := q
  obtain ⟨x, y, z⟩ := v
  simp only [qr_S] at *
  by_cases hz : z = 0
  · by_cases hy : y = 0
    · subst hz; subst hy
      have hx : x ≠ 0 := fun g => hv (by rw [g])
      have p1 : 0 ≤ a * (x * x - 1) := Int.mul_nonneg (by omega) (by have := qf_sqp hx; omega)
      simp only [qf_val]
      have e9 : a * x * x + b * 0 * 0 + c * 0 * 0 + d * 0 * 0 + e * x * 0 + f * x * 0 = a + a * (x * x - 1) := by grind
      omega
    · have := h2 hz hy; omega
  · have := h3 hz; omega
theorem qr_not2 {q : F6} (h : qr_S q) {v : V3} (hv : qf_val q v < q.2.1) : v.2.1 = 0 ∧ v.2.2 = 0 := by
  have h3 := fun g => (qr_S3 h (v := v) g).1
  have h2 := fun g1 g2 => (qr_S2 h (v := v) g1 g2).1
  have h4 := h.2.2.1
  by_cases hz : v.2.2 = 0
  · by_cases hy : v.2.1 = 0
    · exact ⟨hy, hz⟩
    · have := h2 hz hy; omega
  · have := h3 hz; omega
theorem qr_not3 {q : F6} (h : qr_S q) {v : V3} (hv : qf_val q v < q.2.2.1) : v.2.2 = 0 := by
  have h3 := fun g => (qr_S3 h (v := v) g).1
  by_cases hz : v.2.2 = 0
  · exact hz
  · have := h3 hz; omega
