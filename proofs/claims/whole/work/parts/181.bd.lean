/-! neighbours: how large the class's crossed form is; its discriminant -/
theorem bd_mul {a b A B : Int} (h1 : -A ≤ a ∧ a ≤ A) (h2 : -B ≤ b ∧ b ≤ B) : -(A * B) ≤ a * b ∧ a * b ≤ A * B := by
  have e1 := Int.mul_nonneg (show 0 ≤ A - a by omega) (show 0 ≤ B + b by omega)
  have e2 := Int.mul_nonneg (show 0 ≤ A + a by omega) (show 0 ≤ B - b by omega)
  have e3 := Int.mul_nonneg (show 0 ≤ A - a by omega) (show 0 ≤ B - b by omega)
  have e4 := Int.mul_nonneg (show 0 ≤ A + a by omega) (show 0 ≤ B + b by omega)
  rw [Int.sub_mul, Int.mul_add, Int.mul_add] at e1
  rw [Int.add_mul, Int.mul_sub, Int.mul_sub] at e2
  rw [Int.sub_mul, Int.mul_sub, Int.mul_sub] at e3
  rw [Int.add_mul, Int.mul_add, Int.mul_add] at e4
  constructor <;> omega
theorem bd_val {Q : F6} (hq : qs_ Q) {v : V3} {X Y Z : Int} (hX : -X ≤ v.1 ∧ v.1 ≤ X) (hY : -Y ≤ v.2.1 ∧ v.2.1 ≤ Y) (hZ : -Z ≤ v.2.2 ∧ v.2.2 ≤ Z) : qf_val Q v ≤ 6912 * X * X + 6912 * Y * Y + 6912 * Z * Z + 6912 * Y * Z + 6912 * X * Z + 6912 * X * Y := by
  obtain ⟨q1, q2, q3, q4, q5, q6⟩ := hq
  unfold qf_val
  have t1 := (bd_mul (bd_mul q1 hX) hX).2
  have t2 := (bd_mul (bd_mul q2 hY) hY).2
  have t3 := (bd_mul (bd_mul q3 hZ) hZ).2
  have t4 := (bd_mul (bd_mul q4 hY) hZ).2
  have t5 := (bd_mul (bd_mul q5 hX) hZ).2
  have t6 := (bd_mul (bd_mul q6 hX) hY).2
  omega
theorem ofc_bd {Q : F6} (hq : qs_ Q) {u v : Nat} (hu : u < 3) (hv : v < 3) (huv : u ≠ v) {x y z X Y Z : Int} (hX : -X ≤ x ∧ x ≤ X) (hY : -Y ≤ y ∧ y ≤ Y) (hZ : -Z ≤ z ∧ z ≤ Z) : qf_val Q (ofc u v (3 - u - v) x y z) ≤ 6912 * X * X + 6912 * Y * Y + 6912 * Z * Z + 6912 * Y * Z + 6912 * X * Z + 6912 * X * Y := by
  have h1 : u = 0 ∨ u = 1 ∨ u = 2 := by omega
  have h2 : v = 0 ∨ v = 1 ∨ v = 2 := by omega
  have e1 : 6912 * Y * Z = 6912 * Z * Y := by rw [Int.mul_assoc, Int.mul_assoc, Int.mul_comm Y Z]
  have e2 : 6912 * X * Z = 6912 * Z * X := by rw [Int.mul_assoc, Int.mul_assoc, Int.mul_comm X Z]
  have e3 : 6912 * X * Y = 6912 * Y * X := by rw [Int.mul_assoc, Int.mul_assoc, Int.mul_comm X Y]
  rcases h1 with e | e | e <;> subst e <;> rcases h2 with e | e | e <;> subst e
  · exact absurd rfl huv
  · have := bd_val hq (v := (x, y, z)) hX hY hZ; have e : ofc 0 1 (3 - 0 - 1) x y z = (x, y, z) := rfl; rw [e]; omega
  · have := bd_val hq (v := (x, z, y)) hX hZ hY; have e : ofc 0 2 (3 - 0 - 2) x y z = (x, z, y) := rfl; rw [e]; omega
  · have := bd_val hq (v := (y, x, z)) hY hX hZ; have e : ofc 1 0 (3 - 1 - 0) x y z = (y, x, z) := rfl; rw [e]; omega
  · exact absurd rfl huv
  · have := bd_val hq (v := (z, x, y)) hZ hX hY; have e : ofc 1 2 (3 - 1 - 2) x y z = (z, x, y) := rfl; rw [e]; omega
  · have := bd_val hq (v := (y, z, x)) hY hZ hX; have e : ofc 2 0 (3 - 2 - 0) x y z = (y, z, x) := rfl; rw [e]; omega
  · have := bd_val hq (v := (z, y, x)) hZ hY hX; have e : ofc 2 1 (3 - 2 - 1) x y z = (z, y, x) := rfl; rw [e]; omega
  · exact absurd rfl huv
theorem nbC_bd {Q : F6} (hq : qs_ Q) {p u v : Nat} (hp : p = 3 ∨ p = 5 ∨ p = 7) (hu : u < 3) (hv : v < 3) (huv : u ≠ v) {rho w : V3} (hr : ∀ k, 0 ≤ col k rho ∧ col k rho < p) : (crs Q p (nbC p u v rho w)).1 ≤ 400000 ∧ (crs Q p (nbC p u v rho w)).2.1 ≤ 400000 ∧ (crs Q p (nbC p u v rho w)).2.2.1 ≤ 400000 ∧ qf_sum (crs Q p (nbC p u v rho w)) ≤ 999000 := by
  have hp0 : (p : Int) ≠ 0 := by omega
  have hp1 : (0 : Int) < p := by omega
  have rng : ∀ T : Int, 0 ≤ T % (p : Int) ∧ T % (p : Int) < p := fun T => ⟨Int.emod_nonneg _ (by omega), Int.emod_lt_of_pos _ hp1⟩
  unfold qf_sum crs nbC
  dsimp only
  have r1 := rng (ivm p (col v w % (p : Int)) * ((col u w + col v rho * col v w + col (3 - u - v) rho * col (3 - u - v) w) / (p : Int)))
  have r2 := rng (ivm p (col v w % (p : Int)) * col (3 - u - v) w)
  have r3 := hr v
  have r4 := hr (3 - u - v)
  generalize (ivm p (col v w % (p : Int)) * ((col u w + col v rho * col v w + col (3 - u - v) rho * col (3 - u - v) w) / (p : Int))) % (p : Int) = tu at *
  generalize (ivm p (col v w % (p : Int)) * col (3 - u - v) w) % (p : Int) = tO at *
  generalize col v rho = lv at *
  generalize col (3 - u - v) rho = lo at *
  have m := bd_mul (a := tO) (b := lo) (A := p - 1) (B := p - 1) (by omega) (by omega)
  have m0 := Int.mul_nonneg r2.1 r4.1
  generalize tO * lo = to at *
  rcases hp with e | e | e <;> subst e
  · have h1 := ofc_bd hq hu hv huv (x := ((3 : Nat) : Int) * tu - lv - to) (y := 1) (z := tO) (X := 6) (Y := 1) (Z := 2) (by omega) (by omega) (by omega)
    have h2 := ofc_bd hq hu hv huv (x := - lo) (y := 0) (z := 1) (X := 2) (Y := 0) (Z := 1) (by omega) (by omega) (by omega)
    have h3 := ofc_bd hq hu hv huv (x := ((3 : Nat) : Int)) (y := 0) (z := 0) (X := 3) (Y := 0) (Z := 0) (by omega) (by omega) (by omega)
    refine ⟨?_, ?_, ?_, ?_⟩ <;> omega
  · have h1 := ofc_bd hq hu hv huv (x := ((5 : Nat) : Int) * tu - lv - to) (y := 1) (z := tO) (X := 20) (Y := 1) (Z := 4) (by omega) (by omega) (by omega)
    have h2 := ofc_bd hq hu hv huv (x := - lo) (y := 0) (z := 1) (X := 4) (Y := 0) (Z := 1) (by omega) (by omega) (by omega)
    have h3 := ofc_bd hq hu hv huv (x := ((5 : Nat) : Int)) (y := 0) (z := 0) (X := 5) (Y := 0) (Z := 0) (by omega) (by omega) (by omega)
    refine ⟨?_, ?_, ?_, ?_⟩ <;> omega
  · have h1 := ofc_bd hq hu hv huv (x := ((7 : Nat) : Int) * tu - lv - to) (y := 1) (z := tO) (X := 42) (Y := 1) (Z := 6) (by omega) (by omega) (by omega)
    have h2 := ofc_bd hq hu hv huv (x := - lo) (y := 0) (z := 1) (X := 6) (Y := 0) (Z := 1) (by omega) (by omega) (by omega)
    have h3 := ofc_bd hq hu hv huv (x := ((7 : Nat) : Int)) (y := 0) (z := 0) (X := 7) (Y := 0) (Z := 0) (by omega) (by omega) (by omega)
    refine ⟨?_, ?_, ?_, ?_⟩ <;> omega
theorem nbV_lt {p u : Nat} (hu : u < 3) (w : V3) : nbV p u w < 3 ∧ u ≠ nbV p u w := by
  unfold nbV
  split <;> omega
theorem ptsP_col {p : Nat} (hp : p = 3 ∨ p = 5 ∨ p = 7) {v : V3} (h : v ∈ ptsP p) (k : Nat) : 0 ≤ col k v ∧ col k v < p := by
  rw [ptsP_iff] at h
  unfold col
  split
  · omega
  · split <;> omega
theorem crs_disc {Q C : F6} {p : Int} (hp : 0 < p) {B : T9} (h : qf_trn Q (scT p B) = sc6 (p * p) C) (hd : qf_det (scT p B) = p * p * p ∨ qf_det (scT p B) = -(p * p * p)) : qf_disc C = qf_disc Q := by
  have h1 := congrArg qf_disc h
  rw [qf_disc_trn, sc6_disc] at h1
  have h2 : qf_det (scT p B) * qf_det (scT p B) = p * p * (p * p) * (p * p) := by
    rcases hd with e | e <;> rw [e] <;> grind
  rw [h2] at h1
  have h3 : p * p * (p * p) * (p * p) ≠ 0 := by
    have : 0 < p * p := Int.mul_pos hp hp
    have := Int.mul_pos (Int.mul_pos this this) this
    omega
  exact (Int.eq_of_mul_eq_mul_left h3 h1).symm
theorem qf_lin_adj (M : T9) (v : V3) : qf_lin (qf_adj M) (qf_lin M v) = qf_sc (qf_det M) v := by
  simp only [qf_lin, qf_adj, qf_sc, qf_det, Prod.mk.injEq]
  refine ⟨?_, ?_, ?_⟩ <;> grind
theorem qf_lin_nz {M : T9} {v : V3} (hd : qf_det M ≠ 0) (h : qf_lin M v = (0, 0, 0)) : v = (0, 0, 0) := by
  have h1 := qf_lin_adj M v
  rw [h, qf_lin_zero] at h1
  simp only [qf_sc, Prod.mk.injEq] at h1
  obtain ⟨e1, e2, e3⟩ := h1
  have k : ∀ x : Int, 0 = qf_det M * x → x = 0 := fun x e => by
    rcases Int.mul_eq_zero.mp e.symm with g | g
    · exact absurd g hd
    · exact g
  exact Prod.ext (k _ e1) (Prod.ext (k _ e2) (k _ e3))
theorem crs_pd {Q C : F6} {p : Int} (hp : 0 < p) {B : T9} (hQ : qf_pd Q) (h : qf_trn Q (scT p B) = sc6 (p * p) C) (hd : qf_det (scT p B) = p * p * p ∨ qf_det (scT p B) = -(p * p * p)) : qf_pd C := by
  apply qf_pd_of
  intro v hv
  have h1 := qf_val_trn Q (scT p B) v
  rw [h, sc6_val] at h1
  apply qf_pos_of (Int.mul_pos hp hp)
  rw [h1]
  apply qf_pdv_of hQ
  intro h0
  apply hv
  have hd0 : qf_det (scT p B) ≠ 0 := by
    have := Int.mul_pos (Int.mul_pos hp hp) hp
    omega
  exact qf_lin_nz hd0 h0
