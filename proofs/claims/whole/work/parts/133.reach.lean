/-! the reference: roots, reaches, values -/
theorem l7_val {q : Nat → Int64} {Q : F6} (hq : al6 q Q) (v : V3) : fX7_valueOf q (Int64.ofInt v.1) (Int64.ofInt v.2.1) (Int64.ofInt v.2.2) = some (Int64.ofInt (qf_val Q v)) := by
  obtain ⟨h0, h1, h2, h3, h4, h5⟩ := hq
  unfold fX7_valueOf
  simp only [nm_eq, h0, h1, h2, h3, h4, h5, qf_val, Int64.ofInt_add, Int64.ofInt_mul]
theorem l7_tch {q : Nat → Int64} {Q : F6} (hq : al6 q Q) (v w : V3) : fX7_touchOf q (Int64.ofInt v.1) (Int64.ofInt v.2.1) (Int64.ofInt v.2.2) (Int64.ofInt w.1) (Int64.ofInt w.2.1) (Int64.ofInt w.2.2) = some (Int64.ofInt (qf_tch Q v w)) := by
  unfold fX7_touchOf
  have e1 := l7_val hq (v.1 + w.1, v.2.1 + w.2.1, v.2.2 + w.2.2)
  simp only [Int64.ofInt_add] at e1
  rw [e1, l7_val hq v, l7_val hq w]
  simp only [bd1, nm_eq]
  rw [← Int64.ofInt_sub, ← Int64.ofInt_sub]
  congr 2
  simp only [qf_val, qf_tch]
  grind
theorem l7_disc {q : Nat → Int64} {Q : F6} (hq : al6 q Q) : fX7_disc q = some (Int64.ofInt (qf_disc Q)) := by
  obtain ⟨h0, h1, h2, h3, h4, h5⟩ := hq
  unfold fX7_disc
  have e4 : (4 : Int64) = Int64.ofInt 4 := rfl
  simp only [nm_eq, h0, h1, h2, h3, h4, h5, qf_disc, Int64.ofInt_add, Int64.ofInt_mul, Int64.ofInt_sub, e4]
theorem l7_shr : ∀ k : Nat, k < 20 → Int64.ofInt ((2 ^ (k + 1) : Nat) : Int) >>> ((1 : Int32).toInt64 &&& 63) = Int64.ofInt ((2 ^ k : Nat) : Int) := by decide +kernel
theorem l7_r1 {v r : Int} (b : Int) (hb : 1 ≤ b) (hb' : b ≤ 1048576) (hv : 0 ≤ v) (hv' : v ≤ 1600000000) (hr : 0 ≤ r) (hr' : r * r ≤ v) (p : Int64) {R : Type} (k : Int64 → Option R) : (if Int64.ofInt v < ((Int64.ofInt r + Int64.ofInt b) * (Int64.ofInt r + Int64.ofInt b)) then k (Int64.ofInt r) else k (Int64.ofInt r + Int64.ofInt b)) = if v < (r + b) * (r + b) then k (Int64.ofInt r) else k (Int64.ofInt (r + b)) := by
  have hr2 : r ≤ 40000 := by
    rcases qf_lg 40000 r with g | g
    · have : 0 < (r - 40000) * (r + 40000) := Int.mul_pos (by omega) (by omega)
      have e : (r - 40000) * (r + 40000) = r * r - 1600000000 := by grind
      omega
    · exact g
  have h1 : 0 ≤ (1100000 - (r + b)) * (1100000 + (r + b)) := Int.mul_nonneg (by omega) (by omega)
  have e1 : (1100000 - (r + b)) * (1100000 + (r + b)) = 1210000000000 - (r + b) * (r + b) := by grind
  have h2 := qf_sq (r + b)
  rw [← Int64.ofInt_add, ← Int64.ofInt_mul]
  exact if_cg (zl_lt ⟨by omega, by omega⟩ ⟨by omega, by omega⟩)
theorem l7_root1 {v : Int} (hv : 0 ≤ v) (hv' : v ≤ 1600000000) (n : Nat) : ∀ (k : Nat) (r : Int), k ≤ 20 → 0 ≤ r → r * r ≤ v → v < (r + 2 * ((2 ^ k : Nat) : Int)) * (r + 2 * ((2 ^ k : Nat) : Int)) → ∃ r', fX7_root_L7 (Int64.ofInt v) (n + k + 2) (Int64.ofInt r) (Int64.ofInt ((2 ^ k : Nat) : Int)) = some (Int64.ofInt r') ∧ 0 ≤ r' ∧ r' * r' ≤ v ∧ v < (r' + 1) * (r' + 1) := by
  intro k
  induction k with
  | zero =>
    intro r hk hr h1 h2
    have e0 : (0 : Int64) = Int64.ofInt 0 := rfl
    rw [fX7_root_L7, if_neg (by decide)]
    simp only [nm_eq]
    rw [l7_r1 ((2 ^ 0 : Nat) : Int) (by decide) (by decide) hv hv' hr h1 0 (fun x => fX7_root_L7 (Int64.ofInt v) (n + 1) x (Int64.ofInt ((2 ^ 0 : Nat) : Int) >>> ((1 : Int32).toInt64 &&& 63)))]
    have e1 : Int64.ofInt ((2 ^ 0 : Nat) : Int) >>> ((1 : Int32).toInt64 &&& 63) = 0 := by decide
    have e2 : ((2 ^ 0 : Nat) : Int) = 1 := rfl
    rw [e1, e2]
    rw [e2] at h2
    have e3 : ∀ x, fX7_root_L7 (Int64.ofInt v) (n + 1) x 0 = some x := fun x => by rw [fX7_root_L7, if_pos (by decide)]
    by_cases g : v < (r + 1) * (r + 1)
    · rw [if_pos g]
      exact ⟨r, e3 _, hr, h1, g⟩
    · rw [if_neg g]
      exact ⟨r + 1, e3 _, by omega, by omega, by have : r + 1 + 1 = r + 2 * 1 := by omega
                                                 rw [this]; exact h2⟩
  | succ k ih =>
    intro r hk hr h1 h2
    have hp : (1 : Int) ≤ ((2 ^ k : Nat) : Int) := by have := Nat.one_le_two_pow (n := k); omega
    have hpk : ((2 ^ (k + 1) : Nat) : Int) = 2 * ((2 ^ k : Nat) : Int) := by rw [Nat.pow_succ]; omega
    have hp20 : ((2 ^ (k + 1) : Nat) : Int) ≤ 1048576 := by
      have := Nat.pow_le_pow_right (n := 2) (by decide) hk
      have e : (2 : Nat) ^ 20 = 1048576 := by decide
      omega
    have hpos : ¬ Int64.ofInt ((2 ^ (k + 1) : Nat) : Int) ≤ 0 := by
      have e0 : (0 : Int64) = Int64.ofInt 0 := rfl
      rw [e0, zl_le ⟨by omega, by omega⟩ ⟨by omega, by omega⟩]
      omega
    have hn : n + (k + 1) + 2 = (n + k + 2) + 1 := by omega
    rw [hn, fX7_root_L7, if_neg hpos]
    simp only [nm_eq]
    rw [l7_r1 ((2 ^ (k + 1) : Nat) : Int) (by omega) (by omega) hv hv' hr h1 0 (fun x => fX7_root_L7 (Int64.ofInt v) (n + k + 2) x (Int64.ofInt ((2 ^ (k + 1) : Nat) : Int) >>> ((1 : Int32).toInt64 &&& 63)))]
    simp only [l7_shr k (by omega)]
    by_cases g : v < (r + ((2 ^ (k + 1) : Nat) : Int)) * (r + ((2 ^ (k + 1) : Nat) : Int))
    · rw [if_pos g]
      rw [hpk] at g
      exact ih r (by omega) hr h1 g
    · rw [if_neg g]
      refine ih _ (by omega) (by omega) (by omega) ?_
      have e9 : r + ((2 ^ (k + 1) : Nat) : Int) + 2 * ((2 ^ k : Nat) : Int) = r + 2 * ((2 ^ (k + 1) : Nat) : Int) := by omega
      rw [e9]
      exact h2
theorem l7_root {v : Int} (hv : 0 ≤ v) (hv' : v ≤ 1600000000) {F : Nat} (hF : 30 ≤ F) : ∃ r, fX7_root F (Int64.ofInt v) = some (Int64.ofInt r) ∧ (0 ≤ r ∧ r ≤ 40000) ∧ ∀ x : Int, x * x ≤ v → -r ≤ x ∧ x ≤ r := by
  obtain ⟨f, rfl⟩ : ∃ f, F = f + 22 := ⟨F - 22, by omega⟩
  obtain ⟨r, h1, h2, h3, h4⟩ := l7_root1 hv hv' f 20 0 (by omega) (by omega) (by omega) (by
    have e : ((2 ^ 20 : Nat) : Int) = 1048576 := by decide
    rw [e]; omega)
  have h1' : fX7_root (f + 22) (Int64.ofInt v) = some (Int64.ofInt r) := h1
  have hr2 : r ≤ 40000 := by
    rcases qf_lg 40000 r with g | g
    · have : 0 < (r - 40000) * (r + 40000) := Int.mul_pos (by omega) (by omega)
      have e : (r - 40000) * (r + 40000) = r * r - 1600000000 := by grind
      omega
    · exact g
  refine ⟨r, h1', ⟨h2, hr2⟩, fun x hx => ?_⟩
  constructor
  · rcases qf_lg x (-r) with g | g
    · have : 0 ≤ (-x - (r + 1)) * (-x + (r + 1)) := Int.mul_nonneg (by omega) (by omega)
      have e : (-x - (r + 1)) * (-x + (r + 1)) = x * x - (r + 1) * (r + 1) := by grind
      omega
    · exact g
  · rcases qf_lg r x with g | g
    · have : 0 ≤ (x - (r + 1)) * (x + (r + 1)) := Int.mul_nonneg (by omega) (by omega)
      have e : (x - (r + 1)) * (x + (r + 1)) = x * x - (r + 1) * (r + 1) := by grind
      omega
    · exact g
/-- how far the values up to N reach -/
def rc_ok (Q : F6) (N : Int) : Prop := 0 ≤ N ∧ qf_disc Q ≤ 1000000000000 ∧ (0 ≤ N * (4 * Q.2.1 * Q.2.2.1 - Q.2.2.2.1 * Q.2.2.2.1) ∧ N * (4 * Q.2.1 * Q.2.2.1 - Q.2.2.2.1 * Q.2.2.2.1) ≤ 1600000000 * qf_disc Q) ∧ (0 ≤ N * (4 * Q.1 * Q.2.2.1 - Q.2.2.2.2.1 * Q.2.2.2.2.1) ∧ N * (4 * Q.1 * Q.2.2.1 - Q.2.2.2.2.1 * Q.2.2.2.2.1) ≤ 1600000000 * qf_disc Q) ∧ (0 ≤ N * (4 * Q.1 * Q.2.1 - Q.2.2.2.2.2 * Q.2.2.2.2.2) ∧ N * (4 * Q.1 * Q.2.1 - Q.2.2.2.2.2 * Q.2.2.2.2.2) ≤ 1600000000 * qf_disc Q)
theorem l7_rch {D A N : Int} (hD : 0 < D) (h0 : 0 ≤ N * A) (h1 : N * A ≤ 1600000000 * D) (hD' : D ≤ 1000000000) {F : Nat} (hF : 30 ≤ F) : ∃ r, (if ¬ Int64.ofInt D = 0 then bd1 (fX7_root F ((Int64.ofInt N * Int64.ofInt A) / Int64.ofInt D)) (fun (r_3 : Int64) => some r_3) else none) = some (Int64.ofInt r) ∧ (0 ≤ r ∧ r ≤ 40000) ∧ ∀ x V : Int, V ≤ N → 0 ≤ A → D * (x * x) ≤ A * V → -r ≤ x ∧ x ≤ r := by
  have e0 : (0 : Int64) = Int64.ofInt 0 := rfl
  rw [if_pos (by rw [e0, zl_eq ⟨by omega, by omega⟩ ⟨by omega, by omega⟩]; omega), ← Int64.ofInt_mul, zl_div ⟨by omega, by omega⟩ ⟨by omega, by omega⟩, Int.tdiv_eq_ediv_of_nonneg h0]
  have h5 := Int.emod_nonneg (N * A) (by omega : D ≠ 0)
  have h6 := Int.emod_lt_of_pos (N * A) hD
  have h7 := Int.emod_add_mul_ediv (N * A) D
  have k1 : 0 ≤ N * A / D := Int.ediv_nonneg h0 (by omega)
  have k2 : N * A / D ≤ 1600000000 := by
    rcases qf_lg 1600000000 (N * A / D) with g | g
    · have := Int.mul_pos hD (by omega : (0 : Int) < N * A / D - 1600000000)
      have e : D * (N * A / D - 1600000000) = D * (N * A / D) - 1600000000 * D := by grind
      omega
    · exact g
  obtain ⟨r, g1, g2, g3⟩ := l7_root k1 k2 hF
  rw [g1]
  refine ⟨r, rfl, g2, fun x V hV hA hx => g3 x ?_⟩
  have m1 : 0 ≤ A * (N - V) := Int.mul_nonneg hA (by omega)
  have m2 : A * (N - V) = N * A - A * V := by grind
  rcases qf_lg (N * A / D) (x * x) with g | g
  · have := Int.mul_nonneg (Int.le_of_lt hD) (by omega : (0 : Int) ≤ x * x - N * A / D - 1)
    have e : D * (x * x - N * A / D - 1) = D * (x * x) - D * (N * A / D) - D := by grind
    omega
  · exact g
theorem l7_reach0 {q : Nat → Int64} {Q : F6} (hq : al6 q Q) (hp : qf_pd Q) {N : Int} (hN : rc_ok Q N) (hD' : qf_disc Q ≤ 1000000000) {F : Nat} (hF : 30 ≤ F) : ∃ r, fX7_reach F q 0 (Int64.ofInt N) = some (Int64.ofInt r) ∧ (0 ≤ r ∧ r ≤ 40000) ∧ ∀ v : V3, qf_val Q v ≤ N → -r ≤ v.1 ∧ v.1 ≤ r := by
  have hD := hp.2.2
  obtain ⟨r, h1, h2, h3⟩ := l7_rch hD hN.2.2.1.1 hN.2.2.1.2 hD' hF
  have e1 : ((4 : Int64) * (q 1)) * (q 2) - (q 3) * (q 3) = Int64.ofInt (4 * Q.2.1 * Q.2.2.1 - Q.2.2.2.1 * Q.2.2.2.1) := by
    obtain ⟨g0, g1, g2, g3, g4, g5⟩ := hq
    have e4 : (4 : Int64) = Int64.ofInt 4 := rfl
    simp only [e4, g1, g2, g3, Int64.ofInt_mul, Int64.ofInt_sub]
  have e2 : fX7_reach F q 0 (Int64.ofInt N) = bd1 (fX7_disc q) (fun (r_2 : Int64) => if ¬ r_2 = 0 then bd1 (fX7_root F ((Int64.ofInt N * (((4 : Int64) * (q 1)) * (q 2) - (q 3) * (q 3))) / r_2)) (fun (r_3 : Int64) => some r_3) else none) := rfl
  rw [e2, l7_disc hq, e1]
  refine ⟨r, h1, h2, fun v hv => h3 _ _ hv ?_ (qf_reach_x hp v)⟩
  have hpos := qf_pdv_of hp
  obtain ⟨a, b, c, d, e, f⟩ := Q
  have k1 := (qf_pd_xz hp).2.1
  have k2 := (qf_pd_yz hp).2.1
  have k3 := hp.2.1
  simp only at *
  have e9 : 4 * c * b = 4 * b * c := by grind
  omega
theorem l7_reach1 {q : Nat → Int64} {Q : F6} (hq : al6 q Q) (hp : qf_pd Q) {N : Int} (hN : rc_ok Q N) (hD' : qf_disc Q ≤ 1000000000) {F : Nat} (hF : 30 ≤ F) : ∃ r, fX7_reach F q 1 (Int64.ofInt N) = some (Int64.ofInt r) ∧ (0 ≤ r ∧ r ≤ 40000) ∧ ∀ v : V3, qf_val Q v ≤ N → -r ≤ v.2.1 ∧ v.2.1 ≤ r := by
  have hD := hp.2.2
  obtain ⟨r, h1, h2, h3⟩ := l7_rch hD hN.2.2.2.1.1 hN.2.2.2.1.2 hD' hF
  have e1 : ((4 : Int64) * (q 0)) * (q 2) - (q 4) * (q 4) = Int64.ofInt (4 * Q.1 * Q.2.2.1 - Q.2.2.2.2.1 * Q.2.2.2.2.1) := by
    obtain ⟨g0, g1, g2, g3, g4, g5⟩ := hq
    have e4 : (4 : Int64) = Int64.ofInt 4 := rfl
    simp only [e4, g0, g2, g4, Int64.ofInt_mul, Int64.ofInt_sub]
  have e2 : fX7_reach F q 1 (Int64.ofInt N) = bd1 (fX7_disc q) (fun (r_2 : Int64) => if ¬ r_2 = 0 then bd1 (fX7_root F ((Int64.ofInt N * (((4 : Int64) * (q 0)) * (q 2) - (q 4) * (q 4))) / r_2)) (fun (r_3 : Int64) => some r_3) else none) := rfl
  rw [e2, l7_disc hq, e1]
  refine ⟨r, h1, h2, fun v hv => h3 _ _ hv ?_ (qf_reach_y hp v)⟩
  have hpos := qf_pdv_of hp
  obtain ⟨a, b, c, d, e, f⟩ := Q
  have k1 := (qf_pd_xz hp).2.1
  have k2 := (qf_pd_yz hp).2.1
  have k3 := hp.2.1
  simp only at *
  have e9 : 4 * c * b = 4 * b * c := by grind
  omega
theorem l7_reach2 {q : Nat → Int64} {Q : F6} (hq : al6 q Q) (hp : qf_pd Q) {N : Int} (hN : rc_ok Q N) (hD' : qf_disc Q ≤ 1000000000) {F : Nat} (hF : 30 ≤ F) : ∃ r, fX7_reach F q 2 (Int64.ofInt N) = some (Int64.ofInt r) ∧ (0 ≤ r ∧ r ≤ 40000) ∧ ∀ v : V3, qf_val Q v ≤ N → -r ≤ v.2.2 ∧ v.2.2 ≤ r := by
  have hD := hp.2.2
  obtain ⟨r, h1, h2, h3⟩ := l7_rch hD hN.2.2.2.2.1 hN.2.2.2.2.2 hD' hF
  have e1 : ((4 : Int64) * (q 0)) * (q 1) - (q 5) * (q 5) = Int64.ofInt (4 * Q.1 * Q.2.1 - Q.2.2.2.2.2 * Q.2.2.2.2.2) := by
    obtain ⟨g0, g1, g2, g3, g4, g5⟩ := hq
    have e4 : (4 : Int64) = Int64.ofInt 4 := rfl
    simp only [e4, g0, g1, g5, Int64.ofInt_mul, Int64.ofInt_sub]
  have e2 : fX7_reach F q 2 (Int64.ofInt N) = bd1 (fX7_disc q) (fun (r_2 : Int64) => if ¬ r_2 = 0 then bd1 (fX7_root F ((Int64.ofInt N * (((4 : Int64) * (q 0)) * (q 1) - (q 5) * (q 5))) / r_2)) (fun (r_3 : Int64) => some r_3) else none) := rfl
  rw [e2, l7_disc hq, e1]
  refine ⟨r, h1, h2, fun v hv => h3 _ _ hv ?_ (qf_reach_z hp v)⟩
  have hpos := qf_pdv_of hp
  obtain ⟨a, b, c, d, e, f⟩ := Q
  have k1 := (qf_pd_xz hp).2.1
  have k2 := (qf_pd_yz hp).2.1
  have k3 := hp.2.1
  simp only at *
  have e9 : 4 * c * b = 4 * b * c := by grind
  omega
