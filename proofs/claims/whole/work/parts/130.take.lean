/-! the reference: take -/
def al6 (s : Nat → Int64) (q : F6) : Prop := s 0 = Int64.ofInt q.1 ∧ s 1 = Int64.ofInt q.2.1 ∧ s 2 = Int64.ofInt q.2.2.1 ∧ s 3 = Int64.ofInt q.2.2.2.1 ∧ s 4 = Int64.ofInt q.2.2.2.2.1 ∧ s 5 = Int64.ofInt q.2.2.2.2.2
def al9 (r : Nat → Int64) (M : T9) : Prop := r 0 = Int64.ofInt M.1.1 ∧ r 1 = Int64.ofInt M.1.2.1 ∧ r 2 = Int64.ofInt M.1.2.2 ∧ r 3 = Int64.ofInt M.2.1.1 ∧ r 4 = Int64.ofInt M.2.1.2.1 ∧ r 5 = Int64.ofInt M.2.1.2.2 ∧ r 6 = Int64.ofInt M.2.2.1 ∧ r 7 = Int64.ofInt M.2.2.2.1 ∧ r 8 = Int64.ofInt M.2.2.2.2
def tk_ (u t : Int) : Int := (t + u) / (2 * u)
def gk_ (u t : Int) : Int := tk_ u t * (t - tk_ u t * u)
theorem tk_spec {u : Int} (t : Int) (hu : 0 < u) : 2 * u * tk_ u t ≤ t + u ∧ t + u < 2 * u * tk_ u t + 2 * u := by
  unfold tk_
  have h5 := Int.emod_nonneg (t + u) (by omega : 2 * u ≠ 0)
  have h6 := Int.emod_lt_of_pos (t + u) (by omega : 0 < 2 * u)
  have h7 := Int.emod_add_mul_ediv (t + u) (2 * u)
  omega
theorem gk_four (u t : Int) : 4 * u * gk_ u t = t * t - (t - 2 * u * tk_ u t) * (t - 2 * u * tk_ u t) := by
  unfold gk_
  generalize tk_ u t = k
  grind
theorem gk_rng {p u t : Int} (hu : 0 < u) (ht : t * t < 4 * p * u) : -u ≤ gk_ u t ∧ gk_ u t ≤ p := by
  obtain ⟨h1, h2⟩ := tk_spec t hu
  have h3 := gk_four u t
  have h4 := qf_sq (t - 2 * u * tk_ u t)
  have h5 : 0 ≤ (u - (t - 2 * u * tk_ u t)) * (u + (t - 2 * u * tk_ u t)) := Int.mul_nonneg (by omega) (by omega)
  have h6 : (u - (t - 2 * u * tk_ u t)) * (u + (t - 2 * u * tk_ u t)) = u * u - (t - 2 * u * tk_ u t) * (t - 2 * u * tk_ u t) := by grind
  have h7 := qf_sq t
  have h8 := Int.mul_pos hu hu
  constructor
  · have : 0 ≤ gk_ u t + u := by
      refine qf_nn_of (k := 4 * u) (by omega) ?_
      have : 4 * u * (gk_ u t + u) = 4 * u * gk_ u t + 4 * (u * u) := by grind
      omega
    omega
  · have : 0 ≤ p - gk_ u t := by
      refine qf_nn_of (k := 4 * u) (by omega) ?_
      have : 4 * u * (p - gk_ u t) = 4 * p * u - 4 * u * gk_ u t := by grind
      omega
    omega
theorem gk_np {u t : Int} (hu : 0 < u) (h : gk_ u t ≤ 0) : -u ≤ t ∧ t ≤ u := by
  obtain ⟨h1, h2⟩ := tk_spec t hu
  have h3 := gk_four u t
  have h0 : 0 ≤ 4 * u * (-gk_ u t) := Int.mul_nonneg (by omega) (by omega)
  have h0' : 4 * u * (-gk_ u t) = -(4 * u * gk_ u t) := by grind
  have h5 : 0 ≤ (u - (t - 2 * u * tk_ u t)) * (u + (t - 2 * u * tk_ u t)) := Int.mul_nonneg (by omega) (by omega)
  have h6 : (u - (t - 2 * u * tk_ u t)) * (u + (t - 2 * u * tk_ u t)) = u * u - (t - 2 * u * tk_ u t) * (t - 2 * u * tk_ u t) := by grind
  constructor
  · rcases qf_lg t (-u) with g | g
    · have : 0 < (-t - u) * (-t + u) := Int.mul_pos (by omega) (by omega)
      have : (-t - u) * (-t + u) = t * t - u * u := by grind
      omega
    · exact g
  · rcases qf_lg u t with g | g
    · have : 0 < (t - u) * (t + u) := Int.mul_pos (by omega) (by omega)
      have : (t - u) * (t + u) = t * t - u * u := by grind
      omega
    · exact g
/-- how large the reference's numbers are -/
def qB (q : F6) : Prop := (0 < q.1 ∧ q.1 ≤ 1000000000000) ∧ (0 < q.2.1 ∧ q.2.1 ≤ 1000000000000) ∧ (0 < q.2.2.1 ∧ q.2.2.1 ≤ 1000000000000) ∧ q.2.2.2.1 * q.2.2.2.1 < 4 * q.2.1 * q.2.2.1 ∧ q.2.2.2.2.1 * q.2.2.2.2.1 < 4 * q.1 * q.2.2.1 ∧ q.2.2.2.2.2 * q.2.2.2.2.2 < 4 * q.1 * q.2.1
theorem qB_sq {t u v : Int} (h : t * t < 4 * u * v) (hu : 0 < u) (hu' : u ≤ 1000000000000) (hv : 0 < v) (hv' : v ≤ 1000000000000) : -2000000000000 ≤ t ∧ t ≤ 2000000000000 := by
  have h1 : 0 ≤ (1000000000000 - u) * v := Int.mul_nonneg (by omega) (by omega)
  have h2 : (1000000000000 - u) * v = 1000000000000 * v - u * v := by grind
  have h3 : 4 * u * v = 4 * (u * v) := by grind
  constructor
  · rcases qf_lg t (-2000000000000) with g | g
    · have : 0 < (-t - 2000000000000) * (-t + 2000000000000) := Int.mul_pos (by omega) (by omega)
      have : (-t - 2000000000000) * (-t + 2000000000000) = t * t - 4000000000000000000000000 := by grind
      omega
    · exact g
  · rcases qf_lg 2000000000000 t with g | g
    · have : 0 < (t - 2000000000000) * (t + 2000000000000) := Int.mul_pos (by omega) (by omega)
      have : (t - 2000000000000) * (t + 2000000000000) = t * t - 4000000000000000000000000 := by grind
      omega
    · exact g
theorem qB_t {q : F6} (h : qB q) : (-2000000000000 ≤ q.2.2.2.1 ∧ q.2.2.2.1 ≤ 2000000000000) ∧ (-2000000000000 ≤ q.2.2.2.2.1 ∧ q.2.2.2.2.1 ≤ 2000000000000) ∧ (-2000000000000 ≤ q.2.2.2.2.2 ∧ q.2.2.2.2.2 ≤ 2000000000000) := by
  obtain ⟨h1, h2, h3, h4, h5, h6⟩ := h
  exact ⟨qB_sq h4 h2.1 h2.2 h3.1 h3.2, qB_sq h5 h1.1 h1.2 h3.1 h3.2, qB_sq h6 h1.1 h1.2 h2.1 h2.2⟩
theorem qB_of {q : F6} (hp : qf_pd q) (h1 : q.1 ≤ 1000000000000) (h2 : q.2.1 ≤ 1000000000000) (h3 : q.2.2.1 ≤ 1000000000000) : qB q := by
  have p1 := qf_pdv_of hp (1, 0, 0) (by decide)
  have p2 := qf_pdv_of hp (0, 1, 0) (by decide)
  have p3 := qf_pdv_of hp (0, 0, 1) (by decide)
  obtain ⟨a, b, c, d, e, f⟩ := q
  have k1 := (qf_pd_xz hp).2.1
  have k2 := (qf_pd_yz hp).2.1
  have k3 := hp.2.1
  simp only [qB, qf_val] at *
  have e1 : 4 * c * b = 4 * b * c := by grind
  refine ⟨by omega, by omega, by omega, by omega, by omega, by omega⟩
/-- the nearest times, as the reference finds them -/
theorem l7_times {u t : Int} (hu : 0 < u) (hu' : u ≤ 1000000000000) (ht : -2000000000000 ≤ t ∧ t ≤ 2000000000000) {R : Type} (k : Int64 → Option R) : (if Int64.ofInt t + Int64.ofInt u < 0 then (if ¬ (2 : Int64) * Int64.ofInt u = 0 then (k (-((((-(Int64.ofInt t + Int64.ofInt u)) + (2 : Int64) * Int64.ofInt u) - (1 : Int64)) / ((2 : Int64) * Int64.ofInt u)))) else none) else (if ¬ (2 : Int64) * Int64.ofInt u = 0 then (k ((Int64.ofInt t + Int64.ofInt u) / ((2 : Int64) * Int64.ofInt u))) else none)) = k (Int64.ofInt (tk_ u t)) := by
  have e0 : (0 : Int64) = Int64.ofInt 0 := rfl
  have e1 : (1 : Int64) = Int64.ofInt 1 := rfl
  have e2 : (2 : Int64) = Int64.ofInt 2 := rfl
  rw [e0, e1, e2, ← Int64.ofInt_add, ← Int64.ofInt_mul, ← Int64.ofInt_neg, ← Int64.ofInt_add, ← Int64.ofInt_sub, zl_div ⟨by omega, by omega⟩ ⟨by omega, by omega⟩, zl_div ⟨by omega, by omega⟩ ⟨by omega, by omega⟩, ← Int64.ofInt_neg]
  have hne : ¬ Int64.ofInt (2 * u) = Int64.ofInt 0 := by rw [zl_eq ⟨by omega, by omega⟩ ⟨by omega, by omega⟩]; omega
  rw [if_pos hne, if_pos hne]
  have hlt : Int64.ofInt (t + u) < Int64.ofInt 0 ↔ t + u < 0 := zl_lt ⟨by omega, by omega⟩ ⟨by omega, by omega⟩
  by_cases h : t + u < 0
  · rw [if_pos (hlt.mpr h), Int.tdiv_eq_ediv_of_nonneg (by omega)]
    congr 2
    unfold tk_
    have h5 := Int.emod_nonneg (-(t + u) + 2 * u - 1) (by omega : 2 * u ≠ 0)
    have h6 := Int.emod_lt_of_pos (-(t + u) + 2 * u - 1) (by omega : 0 < 2 * u)
    have h7 := Int.emod_add_mul_ediv (-(t + u) + 2 * u - 1) (2 * u)
    refine (zi_fl (by omega) ?_ ?_).symm
    · rw [Int.mul_neg]; omega
    · rw [Int.mul_neg]; omega
  · rw [if_neg (fun g => h (hlt.mp g)), Int.tdiv_eq_ediv_of_nonneg (by omega)]
    rfl
theorem l7_tk01 (fu : Nat) (q b : Nat → Int64) : fX7_take fu q b 0 1 = (if q 5 + q 0 < 0 then (if ¬ (2 : Int64) * q 0 = 0 then ((fun s_6 => if (q 1 - s_6 * q 5) + (s_6 * s_6) * q 0 < q 1 then fX7_take_L166 (vp_updL (vp_updL (vp_updL q 1 ((q 1 - s_6 * q 5) + (s_6 * s_6) * q 0)) 5 (q 5 - s_6 * (2 * q 0))) 3 (q 3 - s_6 * q 4)) 1 0 s_6 fu 0 b else some (0, q, b)) (-((((-(q 5 + q 0)) + (2 : Int64) * q 0) - (1 : Int64)) / ((2 : Int64) * q 0)))) else none) else (if ¬ (2 : Int64) * q 0 = 0 then ((fun s_6 => if (q 1 - s_6 * q 5) + (s_6 * s_6) * q 0 < q 1 then fX7_take_L166 (vp_updL (vp_updL (vp_updL q 1 ((q 1 - s_6 * q 5) + (s_6 * s_6) * q 0)) 5 (q 5 - s_6 * (2 * q 0))) 3 (q 3 - s_6 * q 4)) 1 0 s_6 fu 0 b else some (0, q, b)) ((q 5 + q 0) / ((2 : Int64) * q 0))) else none)) := rfl
theorem l7_tr01 (q1 b : Nat → Int64) {M : T9} (z : Int) (n : Nat) (hb : al9 b M) : ∃ b', fX7_take_L166 q1 1 0 (Int64.ofInt z) (n + 4) 0 b = some (1, q1, b') ∧ al9 b' (qf_mul ((1, 0, 0), (-z, 1, 0), (0, 0, 1)) M) := by
  refine ⟨_, rfl, ?_⟩
  obtain ⟨⟨m0, m1, m2⟩, ⟨m3, m4, m5⟩, ⟨m6, m7, m8⟩⟩ := M
  obtain ⟨g0, g1, g2, g3, g4, g5, g6, g7, g8⟩ := hb
  simp only at g0 g1 g2 g3 g4 g5 g6 g7 g8
  refine ⟨?_, ?_, ?_, ?_, ?_, ?_, ?_, ?_, ?_⟩ <;> simp [vp_updL, qf_mul, qf_lin, g0, g1, g2, g3, g4, g5, g6, g7, g8] <;> (try grind)
theorem l7_tk02 (fu : Nat) (q b : Nat → Int64) : fX7_take fu q b 0 2 = (if q 4 + q 0 < 0 then (if ¬ (2 : Int64) * q 0 = 0 then ((fun s_6 => if (q 2 - s_6 * q 4) + (s_6 * s_6) * q 0 < q 2 then fX7_take_L166 (vp_updL (vp_updL (vp_updL q 2 ((q 2 - s_6 * q 4) + (s_6 * s_6) * q 0)) 4 (q 4 - s_6 * (2 * q 0))) 3 (q 3 - s_6 * q 5)) 2 0 s_6 fu 0 b else some (0, q, b)) (-((((-(q 4 + q 0)) + (2 : Int64) * q 0) - (1 : Int64)) / ((2 : Int64) * q 0)))) else none) else (if ¬ (2 : Int64) * q 0 = 0 then ((fun s_6 => if (q 2 - s_6 * q 4) + (s_6 * s_6) * q 0 < q 2 then fX7_take_L166 (vp_updL (vp_updL (vp_updL q 2 ((q 2 - s_6 * q 4) + (s_6 * s_6) * q 0)) 4 (q 4 - s_6 * (2 * q 0))) 3 (q 3 - s_6 * q 5)) 2 0 s_6 fu 0 b else some (0, q, b)) ((q 4 + q 0) / ((2 : Int64) * q 0))) else none)) := rfl
theorem l7_tr02 (q1 b : Nat → Int64) {M : T9} (z : Int) (n : Nat) (hb : al9 b M) : ∃ b', fX7_take_L166 q1 2 0 (Int64.ofInt z) (n + 4) 0 b = some (1, q1, b') ∧ al9 b' (qf_mul ((1, 0, 0), (0, 1, 0), (-z, 0, 1)) M) := by
  refine ⟨_, rfl, ?_⟩
  obtain ⟨⟨m0, m1, m2⟩, ⟨m3, m4, m5⟩, ⟨m6, m7, m8⟩⟩ := M
  obtain ⟨g0, g1, g2, g3, g4, g5, g6, g7, g8⟩ := hb
  simp only at g0 g1 g2 g3 g4 g5 g6 g7 g8
  refine ⟨?_, ?_, ?_, ?_, ?_, ?_, ?_, ?_, ?_⟩ <;> simp [vp_updL, qf_mul, qf_lin, g0, g1, g2, g3, g4, g5, g6, g7, g8] <;> (try grind)
theorem l7_tk10 (fu : Nat) (q b : Nat → Int64) : fX7_take fu q b 1 0 = (if q 5 + q 1 < 0 then (if ¬ (2 : Int64) * q 1 = 0 then ((fun s_6 => if (q 0 - s_6 * q 5) + (s_6 * s_6) * q 1 < q 0 then fX7_take_L166 (vp_updL (vp_updL (vp_updL q 0 ((q 0 - s_6 * q 5) + (s_6 * s_6) * q 1)) 5 (q 5 - s_6 * (2 * q 1))) 4 (q 4 - s_6 * q 3)) 0 1 s_6 fu 0 b else some (0, q, b)) (-((((-(q 5 + q 1)) + (2 : Int64) * q 1) - (1 : Int64)) / ((2 : Int64) * q 1)))) else none) else (if ¬ (2 : Int64) * q 1 = 0 then ((fun s_6 => if (q 0 - s_6 * q 5) + (s_6 * s_6) * q 1 < q 0 then fX7_take_L166 (vp_updL (vp_updL (vp_updL q 0 ((q 0 - s_6 * q 5) + (s_6 * s_6) * q 1)) 5 (q 5 - s_6 * (2 * q 1))) 4 (q 4 - s_6 * q 3)) 0 1 s_6 fu 0 b else some (0, q, b)) ((q 5 + q 1) / ((2 : Int64) * q 1))) else none)) := rfl
theorem l7_tr10 (q1 b : Nat → Int64) {M : T9} (z : Int) (n : Nat) (hb : al9 b M) : ∃ b', fX7_take_L166 q1 0 1 (Int64.ofInt z) (n + 4) 0 b = some (1, q1, b') ∧ al9 b' (qf_mul ((1, -z, 0), (0, 1, 0), (0, 0, 1)) M) := by
  refine ⟨_, rfl, ?_⟩
  obtain ⟨⟨m0, m1, m2⟩, ⟨m3, m4, m5⟩, ⟨m6, m7, m8⟩⟩ := M
  obtain ⟨g0, g1, g2, g3, g4, g5, g6, g7, g8⟩ := hb
  simp only at g0 g1 g2 g3 g4 g5 g6 g7 g8
  refine ⟨?_, ?_, ?_, ?_, ?_, ?_, ?_, ?_, ?_⟩ <;> simp [vp_updL, qf_mul, qf_lin, g0, g1, g2, g3, g4, g5, g6, g7, g8] <;> (try grind)
theorem l7_tk12 (fu : Nat) (q b : Nat → Int64) : fX7_take fu q b 1 2 = (if q 3 + q 1 < 0 then (if ¬ (2 : Int64) * q 1 = 0 then ((fun s_6 => if (q 2 - s_6 * q 3) + (s_6 * s_6) * q 1 < q 2 then fX7_take_L166 (vp_updL (vp_updL (vp_updL q 2 ((q 2 - s_6 * q 3) + (s_6 * s_6) * q 1)) 3 (q 3 - s_6 * (2 * q 1))) 4 (q 4 - s_6 * q 5)) 2 1 s_6 fu 0 b else some (0, q, b)) (-((((-(q 3 + q 1)) + (2 : Int64) * q 1) - (1 : Int64)) / ((2 : Int64) * q 1)))) else none) else (if ¬ (2 : Int64) * q 1 = 0 then ((fun s_6 => if (q 2 - s_6 * q 3) + (s_6 * s_6) * q 1 < q 2 then fX7_take_L166 (vp_updL (vp_updL (vp_updL q 2 ((q 2 - s_6 * q 3) + (s_6 * s_6) * q 1)) 3 (q 3 - s_6 * (2 * q 1))) 4 (q 4 - s_6 * q 5)) 2 1 s_6 fu 0 b else some (0, q, b)) ((q 3 + q 1) / ((2 : Int64) * q 1))) else none)) := rfl
theorem l7_tr12 (q1 b : Nat → Int64) {M : T9} (z : Int) (n : Nat) (hb : al9 b M) : ∃ b', fX7_take_L166 q1 2 1 (Int64.ofInt z) (n + 4) 0 b = some (1, q1, b') ∧ al9 b' (qf_mul ((1, 0, 0), (0, 1, 0), (0, -z, 1)) M) := by
  refine ⟨_, rfl, ?_⟩
  obtain ⟨⟨m0, m1, m2⟩, ⟨m3, m4, m5⟩, ⟨m6, m7, m8⟩⟩ := M
  obtain ⟨g0, g1, g2, g3, g4, g5, g6, g7, g8⟩ := hb
  simp only at g0 g1 g2 g3 g4 g5 g6 g7 g8
  refine ⟨?_, ?_, ?_, ?_, ?_, ?_, ?_, ?_, ?_⟩ <;> simp [vp_updL, qf_mul, qf_lin, g0, g1, g2, g3, g4, g5, g6, g7, g8] <;> (try grind)
theorem l7_tk20 (fu : Nat) (q b : Nat → Int64) : fX7_take fu q b 2 0 = (if q 4 + q 2 < 0 then (if ¬ (2 : Int64) * q 2 = 0 then ((fun s_6 => if (q 0 - s_6 * q 4) + (s_6 * s_6) * q 2 < q 0 then fX7_take_L166 (vp_updL (vp_updL (vp_updL q 0 ((q 0 - s_6 * q 4) + (s_6 * s_6) * q 2)) 4 (q 4 - s_6 * (2 * q 2))) 5 (q 5 - s_6 * q 3)) 0 2 s_6 fu 0 b else some (0, q, b)) (-((((-(q 4 + q 2)) + (2 : Int64) * q 2) - (1 : Int64)) / ((2 : Int64) * q 2)))) else none) else (if ¬ (2 : Int64) * q 2 = 0 then ((fun s_6 => if (q 0 - s_6 * q 4) + (s_6 * s_6) * q 2 < q 0 then fX7_take_L166 (vp_updL (vp_updL (vp_updL q 0 ((q 0 - s_6 * q 4) + (s_6 * s_6) * q 2)) 4 (q 4 - s_6 * (2 * q 2))) 5 (q 5 - s_6 * q 3)) 0 2 s_6 fu 0 b else some (0, q, b)) ((q 4 + q 2) / ((2 : Int64) * q 2))) else none)) := rfl
theorem l7_tr20 (q1 b : Nat → Int64) {M : T9} (z : Int) (n : Nat) (hb : al9 b M) : ∃ b', fX7_take_L166 q1 0 2 (Int64.ofInt z) (n + 4) 0 b = some (1, q1, b') ∧ al9 b' (qf_mul ((1, 0, -z), (0, 1, 0), (0, 0, 1)) M) := by
  refine ⟨_, rfl, ?_⟩
  obtain ⟨⟨m0, m1, m2⟩, ⟨m3, m4, m5⟩, ⟨m6, m7, m8⟩⟩ := M
  obtain ⟨g0, g1, g2, g3, g4, g5, g6, g7, g8⟩ := hb
  simp only at g0 g1 g2 g3 g4 g5 g6 g7 g8
  refine ⟨?_, ?_, ?_, ?_, ?_, ?_, ?_, ?_, ?_⟩ <;> simp [vp_updL, qf_mul, qf_lin, g0, g1, g2, g3, g4, g5, g6, g7, g8] <;> (try grind)
theorem l7_tk21 (fu : Nat) (q b : Nat → Int64) : fX7_take fu q b 2 1 = (if q 3 + q 2 < 0 then (if ¬ (2 : Int64) * q 2 = 0 then ((fun s_6 => if (q 1 - s_6 * q 3) + (s_6 * s_6) * q 2 < q 1 then fX7_take_L166 (vp_updL (vp_updL (vp_updL q 1 ((q 1 - s_6 * q 3) + (s_6 * s_6) * q 2)) 3 (q 3 - s_6 * (2 * q 2))) 5 (q 5 - s_6 * q 4)) 1 2 s_6 fu 0 b else some (0, q, b)) (-((((-(q 3 + q 2)) + (2 : Int64) * q 2) - (1 : Int64)) / ((2 : Int64) * q 2)))) else none) else (if ¬ (2 : Int64) * q 2 = 0 then ((fun s_6 => if (q 1 - s_6 * q 3) + (s_6 * s_6) * q 2 < q 1 then fX7_take_L166 (vp_updL (vp_updL (vp_updL q 1 ((q 1 - s_6 * q 3) + (s_6 * s_6) * q 2)) 3 (q 3 - s_6 * (2 * q 2))) 5 (q 5 - s_6 * q 4)) 1 2 s_6 fu 0 b else some (0, q, b)) ((q 3 + q 2) / ((2 : Int64) * q 2))) else none)) := rfl
theorem l7_tr21 (q1 b : Nat → Int64) {M : T9} (z : Int) (n : Nat) (hb : al9 b M) : ∃ b', fX7_take_L166 q1 1 2 (Int64.ofInt z) (n + 4) 0 b = some (1, q1, b') ∧ al9 b' (qf_mul ((1, 0, 0), (0, 1, -z), (0, 0, 1)) M) := by
  refine ⟨_, rfl, ?_⟩
  obtain ⟨⟨m0, m1, m2⟩, ⟨m3, m4, m5⟩, ⟨m6, m7, m8⟩⟩ := M
  obtain ⟨g0, g1, g2, g3, g4, g5, g6, g7, g8⟩ := hb
  simp only at g0 g1 g2 g3 g4 g5 g6 g7 g8
  refine ⟨?_, ?_, ?_, ?_, ?_, ?_, ?_, ?_, ?_⟩ <;> simp [vp_updL, qf_mul, qf_lin, g0, g1, g2, g3, g4, g5, g6, g7, g8] <;> (try grind)
theorem l7_take01 {q b : Nat → Int64} {Q : F6} {M : T9} (hq : al6 q Q) (hb : al9 b M) (hB : qB Q) (n : Nat) : (gk_ Q.1 Q.2.2.2.2.2 ≤ 0 ∧ fX7_take (n + 4) q b 0 1 = some (0, q, b)) ∨ (0 < gk_ Q.1 Q.2.2.2.2.2 ∧ ∃ q' b', fX7_take (n + 4) q b 0 1 = some (1, q', b') ∧ al6 q' (qf_trn Q ((1, 0, 0), (-tk_ Q.1 Q.2.2.2.2.2, 1, 0), (0, 0, 1))) ∧ al9 b' (qf_mul ((1, 0, 0), (-tk_ Q.1 Q.2.2.2.2.2, 1, 0), (0, 0, 1)) M)) := by
  have hT := qB_t hB
  have hq' := hq
  obtain ⟨b1, b2, b3, b4, b5, b6⟩ := hB
  obtain ⟨h0, h1, h2, h3, h4, h5⟩ := hq
  have ht : Q.2.2.2.2.2 * Q.2.2.2.2.2 < 4 * Q.2.1 * Q.1 := by
    have e9 : 4 * Q.1 * Q.2.1 = 4 * Q.2.1 * Q.1 := by grind
    omega
  have hr := gk_rng (p := Q.2.1) (u := Q.1) (t := Q.2.2.2.2.2) (by omega) ht
  have main : fX7_take (n + 4) q b 0 1 = if (q 1 - Int64.ofInt (tk_ Q.1 Q.2.2.2.2.2) * q 5) + (Int64.ofInt (tk_ Q.1 Q.2.2.2.2.2) * Int64.ofInt (tk_ Q.1 Q.2.2.2.2.2)) * q 0 < q 1 then fX7_take_L166 (vp_updL (vp_updL (vp_updL q 1 ((q 1 - Int64.ofInt (tk_ Q.1 Q.2.2.2.2.2) * q 5) + (Int64.ofInt (tk_ Q.1 Q.2.2.2.2.2) * Int64.ofInt (tk_ Q.1 Q.2.2.2.2.2)) * q 0)) 5 (q 5 - Int64.ofInt (tk_ Q.1 Q.2.2.2.2.2) * (2 * q 0))) 3 (q 3 - Int64.ofInt (tk_ Q.1 Q.2.2.2.2.2) * q 4)) 1 0 (Int64.ofInt (tk_ Q.1 Q.2.2.2.2.2)) (n + 4) 0 b else some (0, q, b) := by
    have h9 := l7_times (u := Q.1) (t := Q.2.2.2.2.2) (by omega) (by omega) (by omega) (fun s_6 => if (q 1 - s_6 * q 5) + (s_6 * s_6) * q 0 < q 1 then fX7_take_L166 (vp_updL (vp_updL (vp_updL q 1 ((q 1 - s_6 * q 5) + (s_6 * s_6) * q 0)) 5 (q 5 - s_6 * (2 * q 0))) 3 (q 3 - s_6 * q 4)) 1 0 s_6 (n + 4) 0 b else some (0, q, b))
    rw [← h5, ← h0] at h9
    rw [l7_tk01]
    exact h9
  rw [main]
  have e8 : (q 1 - Int64.ofInt (tk_ Q.1 Q.2.2.2.2.2) * q 5) + (Int64.ofInt (tk_ Q.1 Q.2.2.2.2.2) * Int64.ofInt (tk_ Q.1 Q.2.2.2.2.2)) * q 0 = Int64.ofInt (Q.2.1 - gk_ Q.1 Q.2.2.2.2.2) := by
    rw [h1, h5, h0, ← Int64.ofInt_mul, ← Int64.ofInt_mul, ← Int64.ofInt_mul, ← Int64.ofInt_sub, ← Int64.ofInt_add]
    congr 1
    unfold gk_
    grind
  have e7 : Int64.ofInt (Q.2.1 - gk_ Q.1 Q.2.2.2.2.2) < q 1 ↔ 0 < gk_ Q.1 Q.2.2.2.2.2 := by
    rw [h1, zl_lt ⟨by omega, by omega⟩ ⟨by omega, by omega⟩]
    omega
  rw [e8]
  by_cases hg : 0 < gk_ Q.1 Q.2.2.2.2.2
  · right
    rw [if_pos (e7.mpr hg)]
    obtain ⟨b', f1, f2⟩ := l7_tr01 (vp_updL (vp_updL (vp_updL q 1 (Int64.ofInt (Q.2.1 - gk_ Q.1 Q.2.2.2.2.2))) 5 (q 5 - Int64.ofInt (tk_ Q.1 Q.2.2.2.2.2) * (2 * q 0))) 3 (q 3 - Int64.ofInt (tk_ Q.1 Q.2.2.2.2.2) * q 4)) b (tk_ Q.1 Q.2.2.2.2.2) n hb
    rw [f1]
    refine ⟨hg, _, _, rfl, ?_, f2⟩
    rw [← e8]
    clear e8 e7 main hr ht hT b1 b2 b3 b4 b5 b6 hg hq' f1 f2
    generalize tk_ Q.1 Q.2.2.2.2.2 = z
    obtain ⟨qa, qb, qc, qd, qe, qf⟩ := Q
    simp only at h0 h1 h2 h3 h4 h5
    refine ⟨?_, ?_, ?_, ?_, ?_, ?_⟩ <;> simp [vp_updL, qf_trn, qf_val, qf_tch, h0, h1, h2, h3, h4, h5] <;> (try grind)
  · left
    rw [if_neg (fun g => hg (e7.mp g))]
    exact ⟨by omega, rfl⟩
theorem l7_take02 {q b : Nat → Int64} {Q : F6} {M : T9} (hq : al6 q Q) (hb : al9 b M) (hB : qB Q) (n : Nat) : (gk_ Q.1 Q.2.2.2.2.1 ≤ 0 ∧ fX7_take (n + 4) q b 0 2 = some (0, q, b)) ∨ (0 < gk_ Q.1 Q.2.2.2.2.1 ∧ ∃ q' b', fX7_take (n + 4) q b 0 2 = some (1, q', b') ∧ al6 q' (qf_trn Q ((1, 0, 0), (0, 1, 0), (-tk_ Q.1 Q.2.2.2.2.1, 0, 1))) ∧ al9 b' (qf_mul ((1, 0, 0), (0, 1, 0), (-tk_ Q.1 Q.2.2.2.2.1, 0, 1)) M)) := by
  have hT := qB_t hB
  have hq' := hq
  obtain ⟨b1, b2, b3, b4, b5, b6⟩ := hB
  obtain ⟨h0, h1, h2, h3, h4, h5⟩ := hq
  have ht : Q.2.2.2.2.1 * Q.2.2.2.2.1 < 4 * Q.2.2.1 * Q.1 := by
    have e9 : 4 * Q.1 * Q.2.2.1 = 4 * Q.2.2.1 * Q.1 := by grind
    omega
  have hr := gk_rng (p := Q.2.2.1) (u := Q.1) (t := Q.2.2.2.2.1) (by omega) ht
  have main : fX7_take (n + 4) q b 0 2 = if (q 2 - Int64.ofInt (tk_ Q.1 Q.2.2.2.2.1) * q 4) + (Int64.ofInt (tk_ Q.1 Q.2.2.2.2.1) * Int64.ofInt (tk_ Q.1 Q.2.2.2.2.1)) * q 0 < q 2 then fX7_take_L166 (vp_updL (vp_updL (vp_updL q 2 ((q 2 - Int64.ofInt (tk_ Q.1 Q.2.2.2.2.1) * q 4) + (Int64.ofInt (tk_ Q.1 Q.2.2.2.2.1) * Int64.ofInt (tk_ Q.1 Q.2.2.2.2.1)) * q 0)) 4 (q 4 - Int64.ofInt (tk_ Q.1 Q.2.2.2.2.1) * (2 * q 0))) 3 (q 3 - Int64.ofInt (tk_ Q.1 Q.2.2.2.2.1) * q 5)) 2 0 (Int64.ofInt (tk_ Q.1 Q.2.2.2.2.1)) (n + 4) 0 b else some (0, q, b) := by
    have h9 := l7_times (u := Q.1) (t := Q.2.2.2.2.1) (by omega) (by omega) (by omega) (fun s_6 => if (q 2 - s_6 * q 4) + (s_6 * s_6) * q 0 < q 2 then fX7_take_L166 (vp_updL (vp_updL (vp_updL q 2 ((q 2 - s_6 * q 4) + (s_6 * s_6) * q 0)) 4 (q 4 - s_6 * (2 * q 0))) 3 (q 3 - s_6 * q 5)) 2 0 s_6 (n + 4) 0 b else some (0, q, b))
    rw [← h4, ← h0] at h9
    rw [l7_tk02]
    exact h9
  rw [main]
  have e8 : (q 2 - Int64.ofInt (tk_ Q.1 Q.2.2.2.2.1) * q 4) + (Int64.ofInt (tk_ Q.1 Q.2.2.2.2.1) * Int64.ofInt (tk_ Q.1 Q.2.2.2.2.1)) * q 0 = Int64.ofInt (Q.2.2.1 - gk_ Q.1 Q.2.2.2.2.1) := by
    rw [h2, h4, h0, ← Int64.ofInt_mul, ← Int64.ofInt_mul, ← Int64.ofInt_mul, ← Int64.ofInt_sub, ← Int64.ofInt_add]
    congr 1
    unfold gk_
    grind
  have e7 : Int64.ofInt (Q.2.2.1 - gk_ Q.1 Q.2.2.2.2.1) < q 2 ↔ 0 < gk_ Q.1 Q.2.2.2.2.1 := by
    rw [h2, zl_lt ⟨by omega, by omega⟩ ⟨by omega, by omega⟩]
    omega
  rw [e8]
  by_cases hg : 0 < gk_ Q.1 Q.2.2.2.2.1
  · right
    rw [if_pos (e7.mpr hg)]
    obtain ⟨b', f1, f2⟩ := l7_tr02 (vp_updL (vp_updL (vp_updL q 2 (Int64.ofInt (Q.2.2.1 - gk_ Q.1 Q.2.2.2.2.1))) 4 (q 4 - Int64.ofInt (tk_ Q.1 Q.2.2.2.2.1) * (2 * q 0))) 3 (q 3 - Int64.ofInt (tk_ Q.1 Q.2.2.2.2.1) * q 5)) b (tk_ Q.1 Q.2.2.2.2.1) n hb
    rw [f1]
    refine ⟨hg, _, _, rfl, ?_, f2⟩
    rw [← e8]
    clear e8 e7 main hr ht hT b1 b2 b3 b4 b5 b6 hg hq' f1 f2
    generalize tk_ Q.1 Q.2.2.2.2.1 = z
    obtain ⟨qa, qb, qc, qd, qe, qf⟩ := Q
    simp only at h0 h1 h2 h3 h4 h5
    refine ⟨?_, ?_, ?_, ?_, ?_, ?_⟩ <;> simp [vp_updL, qf_trn, qf_val, qf_tch, h0, h1, h2, h3, h4, h5] <;> (try grind)
  · left
    rw [if_neg (fun g => hg (e7.mp g))]
    exact ⟨by omega, rfl⟩
theorem l7_take10 {q b : Nat → Int64} {Q : F6} {M : T9} (hq : al6 q Q) (hb : al9 b M) (hB : qB Q) (n : Nat) : (gk_ Q.2.1 Q.2.2.2.2.2 ≤ 0 ∧ fX7_take (n + 4) q b 1 0 = some (0, q, b)) ∨ (0 < gk_ Q.2.1 Q.2.2.2.2.2 ∧ ∃ q' b', fX7_take (n + 4) q b 1 0 = some (1, q', b') ∧ al6 q' (qf_trn Q ((1, -tk_ Q.2.1 Q.2.2.2.2.2, 0), (0, 1, 0), (0, 0, 1))) ∧ al9 b' (qf_mul ((1, -tk_ Q.2.1 Q.2.2.2.2.2, 0), (0, 1, 0), (0, 0, 1)) M)) := by
  have hT := qB_t hB
  have hq' := hq
  obtain ⟨b1, b2, b3, b4, b5, b6⟩ := hB
  obtain ⟨h0, h1, h2, h3, h4, h5⟩ := hq
  have ht : Q.2.2.2.2.2 * Q.2.2.2.2.2 < 4 * Q.1 * Q.2.1 := by
    have e9 : 4 * Q.2.1 * Q.1 = 4 * Q.1 * Q.2.1 := by grind
    omega
  have hr := gk_rng (p := Q.1) (u := Q.2.1) (t := Q.2.2.2.2.2) (by omega) ht
  have main : fX7_take (n + 4) q b 1 0 = if (q 0 - Int64.ofInt (tk_ Q.2.1 Q.2.2.2.2.2) * q 5) + (Int64.ofInt (tk_ Q.2.1 Q.2.2.2.2.2) * Int64.ofInt (tk_ Q.2.1 Q.2.2.2.2.2)) * q 1 < q 0 then fX7_take_L166 (vp_updL (vp_updL (vp_updL q 0 ((q 0 - Int64.ofInt (tk_ Q.2.1 Q.2.2.2.2.2) * q 5) + (Int64.ofInt (tk_ Q.2.1 Q.2.2.2.2.2) * Int64.ofInt (tk_ Q.2.1 Q.2.2.2.2.2)) * q 1)) 5 (q 5 - Int64.ofInt (tk_ Q.2.1 Q.2.2.2.2.2) * (2 * q 1))) 4 (q 4 - Int64.ofInt (tk_ Q.2.1 Q.2.2.2.2.2) * q 3)) 0 1 (Int64.ofInt (tk_ Q.2.1 Q.2.2.2.2.2)) (n + 4) 0 b else some (0, q, b) := by
    have h9 := l7_times (u := Q.2.1) (t := Q.2.2.2.2.2) (by omega) (by omega) (by omega) (fun s_6 => if (q 0 - s_6 * q 5) + (s_6 * s_6) * q 1 < q 0 then fX7_take_L166 (vp_updL (vp_updL (vp_updL q 0 ((q 0 - s_6 * q 5) + (s_6 * s_6) * q 1)) 5 (q 5 - s_6 * (2 * q 1))) 4 (q 4 - s_6 * q 3)) 0 1 s_6 (n + 4) 0 b else some (0, q, b))
    rw [← h5, ← h1] at h9
    rw [l7_tk10]
    exact h9
  rw [main]
  have e8 : (q 0 - Int64.ofInt (tk_ Q.2.1 Q.2.2.2.2.2) * q 5) + (Int64.ofInt (tk_ Q.2.1 Q.2.2.2.2.2) * Int64.ofInt (tk_ Q.2.1 Q.2.2.2.2.2)) * q 1 = Int64.ofInt (Q.1 - gk_ Q.2.1 Q.2.2.2.2.2) := by
    rw [h0, h5, h1, ← Int64.ofInt_mul, ← Int64.ofInt_mul, ← Int64.ofInt_mul, ← Int64.ofInt_sub, ← Int64.ofInt_add]
    congr 1
    unfold gk_
    grind
  have e7 : Int64.ofInt (Q.1 - gk_ Q.2.1 Q.2.2.2.2.2) < q 0 ↔ 0 < gk_ Q.2.1 Q.2.2.2.2.2 := by
    rw [h0, zl_lt ⟨by omega, by omega⟩ ⟨by omega, by omega⟩]
    omega
  rw [e8]
  by_cases hg : 0 < gk_ Q.2.1 Q.2.2.2.2.2
  · right
    rw [if_pos (e7.mpr hg)]
    obtain ⟨b', f1, f2⟩ := l7_tr10 (vp_updL (vp_updL (vp_updL q 0 (Int64.ofInt (Q.1 - gk_ Q.2.1 Q.2.2.2.2.2))) 5 (q 5 - Int64.ofInt (tk_ Q.2.1 Q.2.2.2.2.2) * (2 * q 1))) 4 (q 4 - Int64.ofInt (tk_ Q.2.1 Q.2.2.2.2.2) * q 3)) b (tk_ Q.2.1 Q.2.2.2.2.2) n hb
    rw [f1]
    refine ⟨hg, _, _, rfl, ?_, f2⟩
    rw [← e8]
    clear e8 e7 main hr ht hT b1 b2 b3 b4 b5 b6 hg hq' f1 f2
    generalize tk_ Q.2.1 Q.2.2.2.2.2 = z
    obtain ⟨qa, qb, qc, qd, qe, qf⟩ := Q
    simp only at h0 h1 h2 h3 h4 h5
    refine ⟨?_, ?_, ?_, ?_, ?_, ?_⟩ <;> simp [vp_updL, qf_trn, qf_val, qf_tch, h0, h1, h2, h3, h4, h5] <;> (try grind)
  · left
    rw [if_neg (fun g => hg (e7.mp g))]
    exact ⟨by omega, rfl⟩
theorem l7_take12 {q b : Nat → Int64} {Q : F6} {M : T9} (hq : al6 q Q) (hb : al9 b M) (hB : qB Q) (n : Nat) : (gk_ Q.2.1 Q.2.2.2.1 ≤ 0 ∧ fX7_take (n + 4) q b 1 2 = some (0, q, b)) ∨ (0 < gk_ Q.2.1 Q.2.2.2.1 ∧ ∃ q' b', fX7_take (n + 4) q b 1 2 = some (1, q', b') ∧ al6 q' (qf_trn Q ((1, 0, 0), (0, 1, 0), (0, -tk_ Q.2.1 Q.2.2.2.1, 1))) ∧ al9 b' (qf_mul ((1, 0, 0), (0, 1, 0), (0, -tk_ Q.2.1 Q.2.2.2.1, 1)) M)) := by
  have hT := qB_t hB
  have hq' := hq
  obtain ⟨b1, b2, b3, b4, b5, b6⟩ := hB
  obtain ⟨h0, h1, h2, h3, h4, h5⟩ := hq
  have ht : Q.2.2.2.1 * Q.2.2.2.1 < 4 * Q.2.2.1 * Q.2.1 := by
    have e9 : 4 * Q.2.1 * Q.2.2.1 = 4 * Q.2.2.1 * Q.2.1 := by grind
    omega
  have hr := gk_rng (p := Q.2.2.1) (u := Q.2.1) (t := Q.2.2.2.1) (by omega) ht
  have main : fX7_take (n + 4) q b 1 2 = if (q 2 - Int64.ofInt (tk_ Q.2.1 Q.2.2.2.1) * q 3) + (Int64.ofInt (tk_ Q.2.1 Q.2.2.2.1) * Int64.ofInt (tk_ Q.2.1 Q.2.2.2.1)) * q 1 < q 2 then fX7_take_L166 (vp_updL (vp_updL (vp_updL q 2 ((q 2 - Int64.ofInt (tk_ Q.2.1 Q.2.2.2.1) * q 3) + (Int64.ofInt (tk_ Q.2.1 Q.2.2.2.1) * Int64.ofInt (tk_ Q.2.1 Q.2.2.2.1)) * q 1)) 3 (q 3 - Int64.ofInt (tk_ Q.2.1 Q.2.2.2.1) * (2 * q 1))) 4 (q 4 - Int64.ofInt (tk_ Q.2.1 Q.2.2.2.1) * q 5)) 2 1 (Int64.ofInt (tk_ Q.2.1 Q.2.2.2.1)) (n + 4) 0 b else some (0, q, b) := by
    have h9 := l7_times (u := Q.2.1) (t := Q.2.2.2.1) (by omega) (by omega) (by omega) (fun s_6 => if (q 2 - s_6 * q 3) + (s_6 * s_6) * q 1 < q 2 then fX7_take_L166 (vp_updL (vp_updL (vp_updL q 2 ((q 2 - s_6 * q 3) + (s_6 * s_6) * q 1)) 3 (q 3 - s_6 * (2 * q 1))) 4 (q 4 - s_6 * q 5)) 2 1 s_6 (n + 4) 0 b else some (0, q, b))
    rw [← h3, ← h1] at h9
    rw [l7_tk12]
    exact h9
  rw [main]
  have e8 : (q 2 - Int64.ofInt (tk_ Q.2.1 Q.2.2.2.1) * q 3) + (Int64.ofInt (tk_ Q.2.1 Q.2.2.2.1) * Int64.ofInt (tk_ Q.2.1 Q.2.2.2.1)) * q 1 = Int64.ofInt (Q.2.2.1 - gk_ Q.2.1 Q.2.2.2.1) := by
    rw [h2, h3, h1, ← Int64.ofInt_mul, ← Int64.ofInt_mul, ← Int64.ofInt_mul, ← Int64.ofInt_sub, ← Int64.ofInt_add]
    congr 1
    unfold gk_
    grind
  have e7 : Int64.ofInt (Q.2.2.1 - gk_ Q.2.1 Q.2.2.2.1) < q 2 ↔ 0 < gk_ Q.2.1 Q.2.2.2.1 := by
    rw [h2, zl_lt ⟨by omega, by omega⟩ ⟨by omega, by omega⟩]
    omega
  rw [e8]
  by_cases hg : 0 < gk_ Q.2.1 Q.2.2.2.1
  · right
    rw [if_pos (e7.mpr hg)]
    obtain ⟨b', f1, f2⟩ := l7_tr12 (vp_updL (vp_updL (vp_updL q 2 (Int64.ofInt (Q.2.2.1 - gk_ Q.2.1 Q.2.2.2.1))) 3 (q 3 - Int64.ofInt (tk_ Q.2.1 Q.2.2.2.1) * (2 * q 1))) 4 (q 4 - Int64.ofInt (tk_ Q.2.1 Q.2.2.2.1) * q 5)) b (tk_ Q.2.1 Q.2.2.2.1) n hb
    rw [f1]
    refine ⟨hg, _, _, rfl, ?_, f2⟩
    rw [← e8]
    clear e8 e7 main hr ht hT b1 b2 b3 b4 b5 b6 hg hq' f1 f2
    generalize tk_ Q.2.1 Q.2.2.2.1 = z
    obtain ⟨qa, qb, qc, qd, qe, qf⟩ := Q
    simp only at h0 h1 h2 h3 h4 h5
    refine ⟨?_, ?_, ?_, ?_, ?_, ?_⟩ <;> simp [vp_updL, qf_trn, qf_val, qf_tch, h0, h1, h2, h3, h4, h5] <;> (try grind)
  · left
    rw [if_neg (fun g => hg (e7.mp g))]
    exact ⟨by omega, rfl⟩
theorem l7_take20 {q b : Nat → Int64} {Q : F6} {M : T9} (hq : al6 q Q) (hb : al9 b M) (hB : qB Q) (n : Nat) : (gk_ Q.2.2.1 Q.2.2.2.2.1 ≤ 0 ∧ fX7_take (n + 4) q b 2 0 = some (0, q, b)) ∨ (0 < gk_ Q.2.2.1 Q.2.2.2.2.1 ∧ ∃ q' b', fX7_take (n + 4) q b 2 0 = some (1, q', b') ∧ al6 q' (qf_trn Q ((1, 0, -tk_ Q.2.2.1 Q.2.2.2.2.1), (0, 1, 0), (0, 0, 1))) ∧ al9 b' (qf_mul ((1, 0, -tk_ Q.2.2.1 Q.2.2.2.2.1), (0, 1, 0), (0, 0, 1)) M)) := by
  have hT := qB_t hB
  have hq' := hq
  obtain ⟨b1, b2, b3, b4, b5, b6⟩ := hB
  obtain ⟨h0, h1, h2, h3, h4, h5⟩ := hq
  have ht : Q.2.2.2.2.1 * Q.2.2.2.2.1 < 4 * Q.1 * Q.2.2.1 := by
    have e9 : 4 * Q.2.2.1 * Q.1 = 4 * Q.1 * Q.2.2.1 := by grind
    omega
  have hr := gk_rng (p := Q.1) (u := Q.2.2.1) (t := Q.2.2.2.2.1) (by omega) ht
  have main : fX7_take (n + 4) q b 2 0 = if (q 0 - Int64.ofInt (tk_ Q.2.2.1 Q.2.2.2.2.1) * q 4) + (Int64.ofInt (tk_ Q.2.2.1 Q.2.2.2.2.1) * Int64.ofInt (tk_ Q.2.2.1 Q.2.2.2.2.1)) * q 2 < q 0 then fX7_take_L166 (vp_updL (vp_updL (vp_updL q 0 ((q 0 - Int64.ofInt (tk_ Q.2.2.1 Q.2.2.2.2.1) * q 4) + (Int64.ofInt (tk_ Q.2.2.1 Q.2.2.2.2.1) * Int64.ofInt (tk_ Q.2.2.1 Q.2.2.2.2.1)) * q 2)) 4 (q 4 - Int64.ofInt (tk_ Q.2.2.1 Q.2.2.2.2.1) * (2 * q 2))) 5 (q 5 - Int64.ofInt (tk_ Q.2.2.1 Q.2.2.2.2.1) * q 3)) 0 2 (Int64.ofInt (tk_ Q.2.2.1 Q.2.2.2.2.1)) (n + 4) 0 b else some (0, q, b) := by
    have h9 := l7_times (u := Q.2.2.1) (t := Q.2.2.2.2.1) (by omega) (by omega) (by omega) (fun s_6 => if (q 0 - s_6 * q 4) + (s_6 * s_6) * q 2 < q 0 then fX7_take_L166 (vp_updL (vp_updL (vp_updL q 0 ((q 0 - s_6 * q 4) + (s_6 * s_6) * q 2)) 4 (q 4 - s_6 * (2 * q 2))) 5 (q 5 - s_6 * q 3)) 0 2 s_6 (n + 4) 0 b else some (0, q, b))
    rw [← h4, ← h2] at h9
    rw [l7_tk20]
    exact h9
  rw [main]
  have e8 : (q 0 - Int64.ofInt (tk_ Q.2.2.1 Q.2.2.2.2.1) * q 4) + (Int64.ofInt (tk_ Q.2.2.1 Q.2.2.2.2.1) * Int64.ofInt (tk_ Q.2.2.1 Q.2.2.2.2.1)) * q 2 = Int64.ofInt (Q.1 - gk_ Q.2.2.1 Q.2.2.2.2.1) := by
    rw [h0, h4, h2, ← Int64.ofInt_mul, ← Int64.ofInt_mul, ← Int64.ofInt_mul, ← Int64.ofInt_sub, ← Int64.ofInt_add]
    congr 1
    unfold gk_
    grind
  have e7 : Int64.ofInt (Q.1 - gk_ Q.2.2.1 Q.2.2.2.2.1) < q 0 ↔ 0 < gk_ Q.2.2.1 Q.2.2.2.2.1 := by
    rw [h0, zl_lt ⟨by omega, by omega⟩ ⟨by omega, by omega⟩]
    omega
  rw [e8]
  by_cases hg : 0 < gk_ Q.2.2.1 Q.2.2.2.2.1
  · right
    rw [if_pos (e7.mpr hg)]
    obtain ⟨b', f1, f2⟩ := l7_tr20 (vp_updL (vp_updL (vp_updL q 0 (Int64.ofInt (Q.1 - gk_ Q.2.2.1 Q.2.2.2.2.1))) 4 (q 4 - Int64.ofInt (tk_ Q.2.2.1 Q.2.2.2.2.1) * (2 * q 2))) 5 (q 5 - Int64.ofInt (tk_ Q.2.2.1 Q.2.2.2.2.1) * q 3)) b (tk_ Q.2.2.1 Q.2.2.2.2.1) n hb
    rw [f1]
    refine ⟨hg, _, _, rfl, ?_, f2⟩
    rw [← e8]
    clear e8 e7 main hr ht hT b1 b2 b3 b4 b5 b6 hg hq' f1 f2
    generalize tk_ Q.2.2.1 Q.2.2.2.2.1 = z
    obtain ⟨qa, qb, qc, qd, qe, qf⟩ := Q
    simp only at h0 h1 h2 h3 h4 h5
    refine ⟨?_, ?_, ?_, ?_, ?_, ?_⟩ <;> simp [vp_updL, qf_trn, qf_val, qf_tch, h0, h1, h2, h3, h4, h5] <;> (try grind)
  · left
    rw [if_neg (fun g => hg (e7.mp g))]
    exact ⟨by omega, rfl⟩
theorem l7_take21 {q b : Nat → Int64} {Q : F6} {M : T9} (hq : al6 q Q) (hb : al9 b M) (hB : qB Q) (n : Nat) : (gk_ Q.2.2.1 Q.2.2.2.1 ≤ 0 ∧ fX7_take (n + 4) q b 2 1 = some (0, q, b)) ∨ (0 < gk_ Q.2.2.1 Q.2.2.2.1 ∧ ∃ q' b', fX7_take (n + 4) q b 2 1 = some (1, q', b') ∧ al6 q' (qf_trn Q ((1, 0, 0), (0, 1, -tk_ Q.2.2.1 Q.2.2.2.1), (0, 0, 1))) ∧ al9 b' (qf_mul ((1, 0, 0), (0, 1, -tk_ Q.2.2.1 Q.2.2.2.1), (0, 0, 1)) M)) := by
  have hT := qB_t hB
  have hq' := hq
  obtain ⟨b1, b2, b3, b4, b5, b6⟩ := hB
  obtain ⟨h0, h1, h2, h3, h4, h5⟩ := hq
  have ht : Q.2.2.2.1 * Q.2.2.2.1 < 4 * Q.2.1 * Q.2.2.1 := by
    have e9 : 4 * Q.2.2.1 * Q.2.1 = 4 * Q.2.1 * Q.2.2.1 := by grind
    omega
  have hr := gk_rng (p := Q.2.1) (u := Q.2.2.1) (t := Q.2.2.2.1) (by omega) ht
  have main : fX7_take (n + 4) q b 2 1 = if (q 1 - Int64.ofInt (tk_ Q.2.2.1 Q.2.2.2.1) * q 3) + (Int64.ofInt (tk_ Q.2.2.1 Q.2.2.2.1) * Int64.ofInt (tk_ Q.2.2.1 Q.2.2.2.1)) * q 2 < q 1 then fX7_take_L166 (vp_updL (vp_updL (vp_updL q 1 ((q 1 - Int64.ofInt (tk_ Q.2.2.1 Q.2.2.2.1) * q 3) + (Int64.ofInt (tk_ Q.2.2.1 Q.2.2.2.1) * Int64.ofInt (tk_ Q.2.2.1 Q.2.2.2.1)) * q 2)) 3 (q 3 - Int64.ofInt (tk_ Q.2.2.1 Q.2.2.2.1) * (2 * q 2))) 5 (q 5 - Int64.ofInt (tk_ Q.2.2.1 Q.2.2.2.1) * q 4)) 1 2 (Int64.ofInt (tk_ Q.2.2.1 Q.2.2.2.1)) (n + 4) 0 b else some (0, q, b) := by
    have h9 := l7_times (u := Q.2.2.1) (t := Q.2.2.2.1) (by omega) (by omega) (by omega) (fun s_6 => if (q 1 - s_6 * q 3) + (s_6 * s_6) * q 2 < q 1 then fX7_take_L166 (vp_updL (vp_updL (vp_updL q 1 ((q 1 - s_6 * q 3) + (s_6 * s_6) * q 2)) 3 (q 3 - s_6 * (2 * q 2))) 5 (q 5 - s_6 * q 4)) 1 2 s_6 (n + 4) 0 b else some (0, q, b))
    rw [← h3, ← h2] at h9
    rw [l7_tk21]
    exact h9
  rw [main]
  have e8 : (q 1 - Int64.ofInt (tk_ Q.2.2.1 Q.2.2.2.1) * q 3) + (Int64.ofInt (tk_ Q.2.2.1 Q.2.2.2.1) * Int64.ofInt (tk_ Q.2.2.1 Q.2.2.2.1)) * q 2 = Int64.ofInt (Q.2.1 - gk_ Q.2.2.1 Q.2.2.2.1) := by
    rw [h1, h3, h2, ← Int64.ofInt_mul, ← Int64.ofInt_mul, ← Int64.ofInt_mul, ← Int64.ofInt_sub, ← Int64.ofInt_add]
    congr 1
    unfold gk_
    grind
  have e7 : Int64.ofInt (Q.2.1 - gk_ Q.2.2.1 Q.2.2.2.1) < q 1 ↔ 0 < gk_ Q.2.2.1 Q.2.2.2.1 := by
    rw [h1, zl_lt ⟨by omega, by omega⟩ ⟨by omega, by omega⟩]
    omega
  rw [e8]
  by_cases hg : 0 < gk_ Q.2.2.1 Q.2.2.2.1
  · right
    rw [if_pos (e7.mpr hg)]
    obtain ⟨b', f1, f2⟩ := l7_tr21 (vp_updL (vp_updL (vp_updL q 1 (Int64.ofInt (Q.2.1 - gk_ Q.2.2.1 Q.2.2.2.1))) 3 (q 3 - Int64.ofInt (tk_ Q.2.2.1 Q.2.2.2.1) * (2 * q 2))) 5 (q 5 - Int64.ofInt (tk_ Q.2.2.1 Q.2.2.2.1) * q 4)) b (tk_ Q.2.2.1 Q.2.2.2.1) n hb
    rw [f1]
    refine ⟨hg, _, _, rfl, ?_, f2⟩
    rw [← e8]
    clear e8 e7 main hr ht hT b1 b2 b3 b4 b5 b6 hg hq' f1 f2
    generalize tk_ Q.2.2.1 Q.2.2.2.1 = z
    obtain ⟨qa, qb, qc, qd, qe, qf⟩ := Q
    simp only at h0 h1 h2 h3 h4 h5
    refine ⟨?_, ?_, ?_, ?_, ?_, ?_⟩ <;> simp [vp_updL, qf_trn, qf_val, qf_tch, h0, h1, h2, h3, h4, h5] <;> (try grind)
  · left
    rw [if_neg (fun g => hg (e7.mp g))]
    exact ⟨by omega, rfl⟩
