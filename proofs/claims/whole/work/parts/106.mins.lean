/-! the three least values of rows that lie apart; how many rows have one value -/
theorem mn_det (U : T9) (x y z : V3) : qf_det (qf_lin U x, qf_lin U y, qf_lin U z) = qf_det (x, y, z) * qf_det U := qf_det_mul (x, y, z) U
theorem mn_back {U : T9} (hU : qf_gl U) (v : V3) : qf_lin U (qf_lin (qf_inv U) v) = v := by
  rw [qf_lin_lin, qf_inv_mul hU, qf_lin_one]
theorem mn_val {q : F6} {U : T9} (hU : qf_gl U) (v : V3) : qf_val (qf_trn q U) (qf_lin (qf_inv U) v) = qf_val q v := by
  rw [qf_val_trn, mn_back hU]
theorem mn_min {q : F6} {U : T9} (hU : qf_gl U) (hS : qr_S (qf_trn q U)) {M : T9} (hM : qf_det M ≠ 0) : qr_le3 (qf_trn q U).1 (qf_trn q U).2.1 (qf_trn q U).2.2.1 (qf_val q M.1) (qf_val q M.2.1) (qf_val q M.2.2) := by
  have h := qr_min hS (M := qf_mul M (qf_inv U)) (by
    rw [qf_det_mul]
    exact Int.mul_ne_zero hM (qf_gl_ne (qf_gl_inv hU)))
  simp only [qf_mul, mn_val hU] at h
  exact h
theorem mn_1 {q : F6} {U : T9} (hU : qf_gl U) (hS : qr_S (qf_trn q U)) {v : V3} (hv : v ≠ (0, 0, 0)) : (qf_trn q U).1 ≤ qf_val q v := by
  rw [← mn_val hU v]
  refine qr_S1 hS (fun e => hv ?_)
  rw [← mn_back hU v, e, qf_lin_zero]
theorem mn_ex1 {q : F6} {U : T9} (hU : qf_gl U) : ∃ v, v ≠ (0, 0, 0) ∧ qf_val q v = (qf_trn q U).1 := ⟨U.1, (qr_rows (qf_gl_ne hU)).1, rfl⟩
theorem mn_e (U : T9) : qf_lin U (1, 0, 0) = U.1 ∧ qf_lin U (0, 1, 0) = U.2.1 ∧ qf_lin U (0, 0, 1) = U.2.2 := by
  obtain ⟨⟨m0, m1, m2⟩, ⟨m3, m4, m5⟩, ⟨m6, m7, m8⟩⟩ := U
  simp [qf_lin]
theorem mn_ex2 {q : F6} {U : T9} (hU : qf_gl U) (hS : qr_S (qf_trn q U)) {r : V3} (hr : r ≠ (0, 0, 0)) : ∃ v u, qf_det (u, v, r) ≠ 0 ∧ qf_val q v ≤ (qf_trn q U).2.1 := by
  have hab := hS.2.1
  have hd := qf_gl_ne hU
  have hs : qf_lin (qf_inv U) r ≠ (0, 0, 0) := fun e => hr (by rw [← mn_back hU r, e, qf_lin_zero])
  have hb := mn_back hU r
  generalize qf_lin (qf_inv U) r = s at hs hb
  have key : ∀ u v : V3, qf_det (u, v, s) ≠ 0 → qf_det (qf_lin U u, qf_lin U v, r) ≠ 0 := fun u v h => by
    rw [← hb, mn_det]
    exact Int.mul_ne_zero h hd
  obtain ⟨x, y, z⟩ := s
  by_cases hy : y = 0
  · by_cases hz : z = 0
    · refine ⟨qf_lin U (0, 1, 0), qf_lin U (0, 0, 1), key _ _ ?_, ?_⟩
      · have hx : x ≠ 0 := fun e => hs (by rw [e, hy, hz])
        simp only [qf_det]
        rw [hy, hz]
        omega
      · rw [(mn_e U).2.1]; exact Int.le_refl _
    · refine ⟨qf_lin U (1, 0, 0), qf_lin U (0, 1, 0), key _ _ ?_, ?_⟩
      · simp only [qf_det]; omega
      · rw [(mn_e U).1]; exact hab
  · refine ⟨qf_lin U (1, 0, 0), qf_lin U (0, 0, 1), key _ _ ?_, ?_⟩
    · simp only [qf_det]; omega
    · rw [(mn_e U).1]; exact hab
theorem mn_ex3 {q : F6} {U : T9} (hU : qf_gl U) (hS : qr_S (qf_trn q U)) {r s u : V3} (hr : qf_det (u, r, s) ≠ 0) : ∃ v, qf_det (v, r, s) ≠ 0 ∧ qf_val q v ≤ (qf_trn q U).2.2.1 := by
  have hab := hS.2.1
  have hbc := hS.2.2.1
  have hu : ∀ w : V3, qf_det (u, r, s) = (qf_lin (qf_inv U) u).1 * qf_det (U.1, r, s) + (qf_lin (qf_inv U) u).2.1 * qf_det (U.2.1, r, s) + (qf_lin (qf_inv U) u).2.2 * qf_det (U.2.2, r, s) := by
    intro _
    have hb := mn_back hU u
    generalize qf_lin (qf_inv U) u = s' at hb
    rw [← hb]
    obtain ⟨⟨m0, m1, m2⟩, ⟨m3, m4, m5⟩, ⟨m6, m7, m8⟩⟩ := U
    obtain ⟨x, y, z⟩ := s'
    simp only [qf_lin, qf_det]
    grind
  have hu := hu (0, 0, 0)
  by_cases h1 : qf_det (U.1, r, s) = 0
  · by_cases h2 : qf_det (U.2.1, r, s) = 0
    · by_cases h3 : qf_det (U.2.2, r, s) = 0
      · rw [h1, h2, h3] at hu
        simp at hu
        exact absurd hu hr
      · exact ⟨U.2.2, h3, Int.le_refl _⟩
    · exact ⟨U.2.1, h2, hbc⟩
  · exact ⟨U.1, h1, Int.le_trans hab hbc⟩
/-- a form in order that no sum makes shorter: a b c is not above DISC -/
theorem qr_abc {q : F6} (h : qr_S q) : q.1 * q.2.1 * q.2.2.1 ≤ qf_disc q := by
  obtain ⟨a, b, c, d, e, f⟩ := q
  simp only [qr_S, qf_disc] at *
  obtain ⟨ha, hab, hbc, hf, he, hd, s1, s2, s3, s4⟩ := h
  -- signs away
  have key : ∀ d e f : Int, 0 ≤ d → d ≤ b → 0 ≤ e → e ≤ a → 0 ≤ f → f ≤ a → d + e + f ≤ a + b → a * b * c ≤ 4 * a * b * c - d * e * f - a * d * d - b * e * e - c * f * f := by
    intro d e f d0 d1 e0 e1 f0 f1 hs
    have hab0 : 0 ≤ a * b := Int.mul_nonneg (by omega) (by omega)
    have p1 : 0 ≤ (a * b) * (c - b) := Int.mul_nonneg hab0 (by omega)
    have p2 : 0 ≤ (a * d) * (b - d) := Int.mul_nonneg (Int.mul_nonneg (by omega) d0) (by omega)
    have p3 : 0 ≤ (a * b) * (c - a) := Int.mul_nonneg hab0 (by omega)
    have p4 : 0 ≤ (b * e) * (a - e) := Int.mul_nonneg (Int.mul_nonneg (by omega) e0) (by omega)
    have p5 : 0 ≤ (c * a) * (b - a) := Int.mul_nonneg (Int.mul_nonneg (by omega) (by omega)) (by omega)
    have p6 : 0 ≤ (c * f) * (a - f) := Int.mul_nonneg (Int.mul_nonneg (by omega) f0) (by omega)
    have p7 : 0 ≤ a * ((c - b) * (a - f)) := Int.mul_nonneg (by omega) (Int.mul_nonneg (by omega) (by omega))
    have p8 : 0 ≤ (a * b) * (a + b - d - e - f) := Int.mul_nonneg hab0 (by omega)
    have p9 : 0 ≤ (a * b) * (a - e) := Int.mul_nonneg hab0 (by omega)
    have p10 : 0 ≤ (a * e) * (b - d) := Int.mul_nonneg (Int.mul_nonneg (by omega) e0) (by omega)
    have p11 : 0 ≤ (d * e) * (a - f) := Int.mul_nonneg (Int.mul_nonneg d0 e0) (by omega)
    have id9 : 4 * a * b * c - d * e * f - a * d * d - b * e * e - c * f * f = a * b * c + ((a * b) * (c - b) + (a * d) * (b - d) + (a * b) * (c - a) + (b * e) * (a - e) + (c * a) * (b - a) + (c * f) * (a - f) + a * ((c - b) * (a - f)) + (a * b) * (a + b - d - e - f) + (a * b) * (a - e) + (a * e) * (b - d) + (d * e) * (a - f)) := by grind
    omega
  have key2 : ∀ d e f : Int, 0 ≤ d → d ≤ b → 0 ≤ e → e ≤ a → 0 ≤ f → f ≤ a → a * b * c ≤ 4 * a * b * c + d * e * f - a * d * d - b * e * e - c * f * f := by
    intro d e f d0 d1 e0 e1 f0 f1
    have hab0 : 0 ≤ a * b := Int.mul_nonneg (by omega) (by omega)
    have p1 : 0 ≤ (a * b) * (c - b) := Int.mul_nonneg hab0 (by omega)
    have p2 : 0 ≤ (a * d) * (b - d) := Int.mul_nonneg (Int.mul_nonneg (by omega) d0) (by omega)
    have p2' : 0 ≤ (a * b) * (b - d) := Int.mul_nonneg hab0 (by omega)
    have p3 : 0 ≤ (a * b) * (c - a) := Int.mul_nonneg hab0 (by omega)
    have p4 : 0 ≤ (b * e) * (a - e) := Int.mul_nonneg (Int.mul_nonneg (by omega) e0) (by omega)
    have p4' : 0 ≤ (a * b) * (a - e) := Int.mul_nonneg hab0 (by omega)
    have p5 : 0 ≤ (c * a) * (b - a) := Int.mul_nonneg (Int.mul_nonneg (by omega) (by omega)) (by omega)
    have p6 : 0 ≤ (c * f) * (a - f) := Int.mul_nonneg (Int.mul_nonneg (by omega) f0) (by omega)
    have p6' : 0 ≤ (c * a) * (a - f) := Int.mul_nonneg (Int.mul_nonneg (by omega) (by omega)) (by omega)
    have p7 : 0 ≤ (d * e) * f := Int.mul_nonneg (Int.mul_nonneg d0 e0) f0
    have id9 : 4 * a * b * c + d * e * f - a * d * d - b * e * e - c * f * f = a * b * c + ((a * b) * (c - b) + (a * d) * (b - d) + (a * b) * (b - d) + (a * b) * (c - a) + (b * e) * (a - e) + (a * b) * (a - e) + (c * a) * (b - a) + (c * f) * (a - f) + (c * a) * (a - f) + (d * e) * f) := by grind
    omega
  rcases Int.le_total 0 d with gd | gd <;> rcases Int.le_total 0 e with ge | ge <;> rcases Int.le_total 0 f with gf | gf
  · exact key2 d e f gd (by omega) ge (by omega) gf (by omega)
  · have := key d e (-f) gd (by omega) ge (by omega) (by omega) (by omega) (by omega)
    have e9 : 4 * a * b * c - d * e * -f - a * d * d - b * e * e - c * -f * -f = 4 * a * b * c + d * e * f - a * d * d - b * e * e - c * f * f := by grind
    omega
  · have := key d (-e) f gd (by omega) (by omega) (by omega) gf (by omega) (by omega)
    have e9 : 4 * a * b * c - d * -e * f - a * d * d - b * -e * -e - c * f * f = 4 * a * b * c + d * e * f - a * d * d - b * e * e - c * f * f := by grind
    omega
  · have := key2 d (-e) (-f) gd (by omega) (by omega) (by omega) (by omega) (by omega)
    have e9 : 4 * a * b * c + d * -e * -f - a * d * d - b * -e * -e - c * -f * -f = 4 * a * b * c + d * e * f - a * d * d - b * e * e - c * f * f := by grind
    omega
  · have := key (-d) e f (by omega) (by omega) ge (by omega) gf (by omega) (by omega)
    have e9 : 4 * a * b * c - -d * e * f - a * -d * -d - b * e * e - c * f * f = 4 * a * b * c + d * e * f - a * d * d - b * e * e - c * f * f := by grind
    omega
  · have := key2 (-d) e (-f) (by omega) (by omega) ge (by omega) (by omega) (by omega)
    have e9 : 4 * a * b * c + -d * e * -f - a * -d * -d - b * e * e - c * -f * -f = 4 * a * b * c + d * e * f - a * d * d - b * e * e - c * f * f := by grind
    omega
  · have := key2 (-d) (-e) f (by omega) (by omega) (by omega) (by omega) gf (by omega)
    have e9 : 4 * a * b * c + -d * -e * f - a * -d * -d - b * -e * -e - c * f * f = 4 * a * b * c + d * e * f - a * d * d - b * e * e - c * f * f := by grind
    omega
  · have := key (-d) (-e) (-f) (by omega) (by omega) (by omega) (by omega) (by omega) (by omega) (by omega)
    have e9 : 4 * a * b * c - -d * -e * -f - a * -d * -d - b * -e * -e - c * -f * -f = 4 * a * b * c + d * e * f - a * d * d - b * e * e - c * f * f := by grind
    omega
/-- and DISC is not above 4 a b c -/
theorem qf_disc_le {q : F6} (h : qf_pd q) : qf_disc q ≤ 4 * q.1 * q.2.1 * q.2.2.1 := by
  have hc := qf_pdv_of h (0, 0, 1) (by decide)
  obtain ⟨a, b, c, d, e, f⟩ := q
  obtain ⟨h1, h2, h3⟩ := h
  simp only [qf_disc, qf_val] at *
  have i1 := qf_sq (2 * a * d - f * e)
  have i2 := Int.mul_nonneg (Int.le_of_lt h2) (qf_sq e)
  have i3 := Int.mul_nonneg (by omega : (0 : Int) ≤ c) (qf_sq f)
  have i4 : (4 * a) * (a * d * d + b * e * e - d * e * f) = (2 * a * d - f * e) * (2 * a * d - f * e) + (4 * a * b - f * f) * (e * e) := by grind
  have i5 := qf_nn_of (k := 4 * a) (v := a * d * d + b * e * e - d * e * f) (by omega) (by rw [i4]; omega)
  have i6 : c * (f * f) = c * f * f := by grind
  omega
/-- how many rows have one value that is not above c -/
theorem nd_code {α : Type} (f : α → Nat) (N : Nat) {l : List α} (h : l.Nodup) (hf : ∀ x ∈ l, ∀ y ∈ l, f x = f y → x = y) (hN : ∀ x ∈ l, f x < N) : l.length ≤ N := by
  have h1 : (l.map f).Nodup := by
    induction l with
    | nil => exact List.nodup_nil
    | cons x t ih =>
      have h2 := List.nodup_cons.mp h
      rw [List.map_cons]
      refine List.nodup_cons.mpr ⟨fun hm => ?_, ih h2.2 (fun x hx y hy => hf x (List.mem_cons_of_mem _ hx) y (List.mem_cons_of_mem _ hy)) (fun x hx => hN x (List.mem_cons_of_mem _ hx))⟩
      obtain ⟨y, hy, e⟩ := List.mem_map.mp hm
      exact h2.1 (by rw [← hf _ (List.mem_cons_of_mem _ hy) _ List.mem_cons_self e]; exact hy)
  have h2 := nd_len (m := List.range N) h1 (fun x hx => by
    obtain ⟨y, hy, e⟩ := List.mem_map.mp hx
    rw [List.mem_range, ← e]
    exact hN y hy)
  rwa [List.length_map, List.length_range] at h2
def mn_code (a f : Int) (v : V3) : Nat := if v.2.2 = 0 then (27 + 2 * (v.2.1 + 96) + (if 0 ≤ 2 * a * v.1 + f * v.2.1 then 1 else 0)).toNat else (9 * (v.1 + 1) + 3 * (v.2.1 + 1) + (v.2.2 + 1)).toNat
theorem mn_many {q : F6} (h : qr_S q) (hc : q.2.2.1 ≤ 6912) {n : Int} (hn : n ≤ q.2.2.1) {l : List V3} (hl : l.Nodup) (hv : ∀ v ∈ l, qf_val q v = n) : l.length ≤ 420 := by
  have hy : ∀ v : V3, v.2.2 = 0 → qf_val q v = n → -96 ≤ v.2.1 ∧ v.2.1 ≤ 96 := by
    intro v hz hv
    obtain ⟨a, b, c, d, e, f⟩ := q
    obtain ⟨x, y, z⟩ := v
    simp only [qr_S, qf_val] at *
    subst hz
    obtain ⟨ha, hab, hbc, hf, he, hd, _⟩ := h
    have i1 := qf_sq (2 * a * x + f * y)
    have i2 : (4 * a) * (a * x * x + b * y * y + c * 0 * 0 + d * y * 0 + e * x * 0 + f * x * y) = (2 * a * x + f * y) * (2 * a * x + f * y) + (4 * a * b - f * f) * (y * y) := by grind
    have i3 : 0 ≤ (a - f) * (a + f) := Int.mul_nonneg (by omega) (by omega)
    have i3' : 0 ≤ a * (b - a) := Int.mul_nonneg (by omega) (by omega)
    have i4 : 0 ≤ ((a - f) * (a + f) + a * (b - a)) * (y * y) := Int.mul_nonneg (by omega) (qf_sq y)
    have i5 : (4 * a * b - f * f) * (y * y) = 3 * (a * b) * (y * y) + ((a - f) * (a + f) + a * (b - a)) * (y * y) := by grind
    rw [hv] at i2
    have i6 : a * (4 * n - 3 * b * (y * y)) = (4 * a) * n - 3 * (a * b) * (y * y) := by grind
    have i7 := qf_nn_of ha (v := 4 * n - 3 * b * (y * y)) (by rw [i6]; omega)
    have i8 : 0 ≤ (b - 1) * (y * y) := Int.mul_nonneg (by omega) (qf_sq y)
    have i9 : 3 * b * (y * y) = 3 * (y * y) + 3 * ((b - 1) * (y * y)) := by grind
    have i10 : y * y ≤ 9216 := by omega
    constructor
    · rcases qf_lg y (-96) with g | g
      · have : 0 ≤ (-y - 97) * (-y + 97) := Int.mul_nonneg (by omega) (by omega)
        have e9 : (-y - 97) * (-y + 97) = y * y - 9409 := by grind
        omega
      · exact g
    · rcases qf_lg 96 y with g | g
      · have : 0 ≤ (y - 97) * (y + 97) := Int.mul_nonneg (by omega) (by omega)
        have e9 : (y - 97) * (y + 97) = y * y - 9409 := by grind
        omega
      · exact g
  have hb : ∀ v : V3, v.2.2 ≠ 0 → qf_val q v = n → qr_bx v := fun v hz hv => (qr_S3 h hz).2 (by omega)
  refine Nat.le_trans (nd_code (mn_code q.1 q.2.2.2.2.2) 420 hl (fun v h1 w h2 e => ?_) (fun v h1 => ?_)) (Nat.le_refl _)
  · have v1 := hv v h1
    have w1 := hv w h2
    have yv := fun g => hy v g v1
    have yw := fun g => hy w g w1
    have bv := fun g => hb v g v1
    have bw := fun g => hb w g w1
    obtain ⟨x, y, z⟩ := v
    obtain ⟨x', y', z'⟩ := w
    simp only [mn_code, qr_bx] at *
    by_cases hz : z = 0
    · by_cases hz' : z' = 0
      · rw [if_pos hz, if_pos hz'] at e
        have yv := yv hz
        have yw := yw hz'
        have e1 : y = y' ∧ (0 ≤ 2 * q.1 * x + q.2.2.2.2.2 * y ↔ 0 ≤ 2 * q.1 * x' + q.2.2.2.2.2 * y') := by
          split at e <;> split at e <;> omega
        obtain ⟨e1, e2⟩ := e1
        subst hz; subst hz'; subst e1
        have ha := h.1
        obtain ⟨a, b, c, d, ee, f⟩ := q
        simp only [qf_val] at *
        have j1 : (a * (x - x')) * (((2 * a * x + f * y) + (2 * a * x' + f * y))) = 2 * a * ((a * x * x + b * y * y + c * 0 * 0 + d * y * 0 + ee * x * 0 + f * x * y) - (a * x' * x' + b * y * y + c * 0 * 0 + d * y * 0 + ee * x' * 0 + f * x' * y)) := by grind
        rw [v1, w1, Int.sub_self, Int.mul_zero] at j1
        have j2 : x = x' := by
          rcases Int.mul_eq_zero.mp j1 with j | j
          · rcases Int.mul_eq_zero.mp j with j | j <;> omega
          · have j3 : 2 * a * x + f * y = 0 ∧ 2 * a * x' + f * y = 0 := by omega
            have j4 : (2 * a) * (x - x') = 0 := by have : (2 * a) * (x - x') = (2 * a * x + f * y) - (2 * a * x' + f * y) := by grind
                                                   omega
            rcases Int.mul_eq_zero.mp j4 with j | j <;> omega
        rw [j2]
      · rw [if_pos hz, if_neg hz'] at e
        have yv := yv hz
        have bw := bw hz'
        split at e <;> omega
    · by_cases hz' : z' = 0
      · rw [if_neg hz, if_pos hz'] at e
        have yw := yw hz'
        have bv := bv hz
        split at e <;> omega
      · rw [if_neg hz, if_neg hz'] at e
        have bv := bv hz
        have bw := bw hz'
        simp only [Prod.mk.injEq]
        omega
  · have v1 := hv v h1
    have yv := fun g => hy v g v1
    have bv := fun g => hb v g v1
    obtain ⟨x, y, z⟩ := v
    simp only [mn_code, qr_bx] at *
    by_cases hz : z = 0
    · rw [if_pos hz]
      have yv := yv hz
      split <;> omega
    · rw [if_neg hz]
      have bv := bv hz
      omega
