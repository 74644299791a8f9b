/-! how often a number is taken: the class -/
theorem x5_shr : ∀ k : Nat, k < 14 → Int32.ofInt ((2 ^ (k + 1) : Nat) : Int) >>> ((1 : Int32) &&& 31) = Int32.ofInt ((2 ^ k : Nat) : Int) := by decide +kernel
theorem x5_r0 {v r : Int} (hv' : v ≤ 1000000) (hr' : r * r ≤ v) : r ≤ 1000 := by
  rcases qf_lg 1000 r with g | g
  · have : 0 < (r - 1000) * (r + 1000) := Int.mul_pos (by omega) (by omega)
    have e : (r - 1000) * (r + 1000) = r * r - 1000000 := by grind
    omega
  · exact g
theorem x5_r1 {v r : Int} (b : Int) (hb : 1 ≤ b) (hb' : b ≤ 16384) (hv : 0 ≤ v) (hv' : v ≤ 1000000) (hr : 0 ≤ r) (hr' : r * r ≤ v) {R : Type} (k : Int32 → Option R) : (if Int32.ofInt v < ((Int32.ofInt r + Int32.ofInt b) * (Int32.ofInt r + Int32.ofInt b)) then k (Int32.ofInt r) else k (Int32.ofInt r + Int32.ofInt b)) = if v < (r + b) * (r + b) then k (Int32.ofInt r) else k (Int32.ofInt (r + b)) := by
  have hr2 := x5_r0 hv' hr'
  have h1 : 0 ≤ (17384 - (r + b)) * (17384 + (r + b)) := Int.mul_nonneg (by omega) (by omega)
  have e1 : (17384 - (r + b)) * (17384 + (r + b)) = 302203456 - (r + b) * (r + b) := by grind
  have h2 := qf_sq (r + b)
  rw [← Int32.ofInt_add, ← Int32.ofInt_mul]
  exact if_cg (zi_lt ⟨by omega, by omega⟩ ⟨by omega, by omega⟩)
theorem x5_root1 {v : Int} (hv : 0 ≤ v) (hv' : v ≤ 1000000) (n : Nat) : ∀ (k : Nat) (r : Int), k ≤ 14 → 0 ≤ r → r * r ≤ v → v < (r + 2 * ((2 ^ k : Nat) : Int)) * (r + 2 * ((2 ^ k : Nat) : Int)) → ∃ r', fX5_rootOf_L6 (Int32.ofInt v) (n + k + 2) (Int32.ofInt r) (Int32.ofInt ((2 ^ k : Nat) : Int)) = some (Int32.ofInt r') ∧ 0 ≤ r' ∧ r' * r' ≤ v ∧ v < (r' + 1) * (r' + 1) := by
  intro k
  induction k with
  | zero =>
    intro r hk hr h1 h2
    rw [fX5_rootOf_L6, if_neg (by decide)]
    simp only [nm_eq]
    rw [x5_r1 ((2 ^ 0 : Nat) : Int) (by decide) (by decide) hv hv' hr h1 (fun x => fX5_rootOf_L6 (Int32.ofInt v) (n + 1) x (Int32.ofInt ((2 ^ 0 : Nat) : Int) >>> ((1 : Int32) &&& 31)))]
    have e1 : Int32.ofInt ((2 ^ 0 : Nat) : Int) >>> ((1 : Int32) &&& 31) = 0 := by decide
    have e2 : ((2 ^ 0 : Nat) : Int) = 1 := rfl
    rw [e1, e2]
    rw [e2] at h2
    have e3 : ∀ x, fX5_rootOf_L6 (Int32.ofInt v) (n + 1) x 0 = some x := fun x => by rw [fX5_rootOf_L6, if_pos (by decide)]
    by_cases g : v < (r + 1) * (r + 1)
    · rw [if_pos g]
      exact ⟨r, e3 _, hr, h1, g⟩
    · rw [if_neg g]
      exact ⟨r + 1, e3 _, by omega, by omega, by have : r + 1 + 1 = r + 2 * 1 := by omega
                                                 rw [this]; exact h2⟩
  | succ k ih =>
    intro r hk hr h1 h2
    have hp : (1 : Int) ≤ ((2 ^ k : Nat) : Int) := by have := Nat.one_le_two_pow (n := k); omega
    have hpk : ((2 ^ (k + 1) : Nat) : Int) = 2 * ((2 ^ k : Nat) : Int) := by rw [Nat.pow_succ]; omega
    have hp20 : ((2 ^ (k + 1) : Nat) : Int) ≤ 16384 := by
      have := Nat.pow_le_pow_right (n := 2) (by decide) hk
      have e : (2 : Nat) ^ 14 = 16384 := by decide
      omega
    have hpos : ¬ Int32.ofInt ((2 ^ (k + 1) : Nat) : Int) ≤ 0 := by
      have e0 : (0 : Int32) = Int32.ofInt 0 := rfl
      rw [e0, zi_le ⟨by omega, by omega⟩ ⟨by omega, by omega⟩]
      omega
    have hn : n + (k + 1) + 2 = (n + k + 2) + 1 := by omega
    rw [hn, fX5_rootOf_L6, if_neg hpos]
    simp only [nm_eq]
    rw [x5_r1 ((2 ^ (k + 1) : Nat) : Int) (by omega) (by omega) hv hv' hr h1 (fun x => fX5_rootOf_L6 (Int32.ofInt v) (n + k + 2) x (Int32.ofInt ((2 ^ (k + 1) : Nat) : Int) >>> ((1 : Int32) &&& 31)))]
    simp only [x5_shr k (by omega)]
    by_cases g : v < (r + ((2 ^ (k + 1) : Nat) : Int)) * (r + ((2 ^ (k + 1) : Nat) : Int))
    · rw [if_pos g]
      rw [hpk] at g
      exact ih r (by omega) hr h1 g
    · rw [if_neg g]
      refine ih _ (by omega) (by omega) (by omega) ?_
      have e9 : r + ((2 ^ (k + 1) : Nat) : Int) + 2 * ((2 ^ k : Nat) : Int) = r + 2 * ((2 ^ (k + 1) : Nat) : Int) := by omega
      rw [e9]
      exact h2
theorem x5_root {v : Int} (hv : 0 ≤ v) (hv' : v ≤ 1000000) {F : Nat} (hF : 30 ≤ F) : ∃ r, fX5_rootOf F (Int32.ofInt v) = some (Int32.ofInt r) ∧ (0 ≤ r ∧ r ≤ 1000) ∧ r * r ≤ v ∧ v < (r + 1) * (r + 1) ∧ ∀ x : Int, x * x ≤ v → -r ≤ x ∧ x ≤ r := by
  obtain ⟨f, rfl⟩ : ∃ f, F = f + 16 := ⟨F - 16, by omega⟩
  obtain ⟨r, h1, h2, h3, h4⟩ := x5_root1 hv hv' f 14 0 (by omega) (by omega) (by omega) (by
    have e : ((2 ^ 14 : Nat) : Int) = 16384 := by decide
    rw [e]; omega)
  have h1' : fX5_rootOf (f + 16) (Int32.ofInt v) = some (Int32.ofInt r) := h1
  refine ⟨r, h1', ⟨h2, x5_r0 hv' h3⟩, h3, h4, fun x hx => ?_⟩
  constructor
  · rcases qf_lg x (-r) with g | g
    · have : 0 ≤ (-x - (r + 1)) * (-x + (r + 1)) := Int.mul_nonneg (by omega) (by omega)
      have e : (-x - (r + 1)) * (-x + (r + 1)) = x * x - (r + 1) * (r + 1) := by grind
      omega
    · exact g
  · rcases qf_lg r x with g | g
    · have : 0 ≤ (x - (r + 1)) * (x + (r + 1)) := Int.mul_nonneg (by omega) (by omega)
      have e : (x - (r + 1)) * (x + (r + 1)) = x * x - (r + 1) * (r + 1) := by grind
      omega
    · exact g
/-- the x that solve it, for one y and z -/
theorem x5_sol {a m S r V0 N : Int} (ha : 0 < a) (hS : S = m * m - 4 * a * (V0 - N)) : (S < 0 → ∀ x : Int, ¬ a * x * x + m * x + V0 = N) ∧ (0 ≤ r → r * r ≤ S → S < (r + 1) * (r + 1) → (r * r ≠ S → ∀ x : Int, ¬ a * x * x + m * x + V0 = N) ∧ (r * r = S → ∃ l : List Int, l.Nodup ∧ (∀ x, x ∈ l ↔ a * x * x + m * x + V0 = N) ∧ l.length = (if (2 * a) ∣ (r - m) then 1 else 0) + (if r ≠ 0 ∧ (2 * a) ∣ (r + m) then 1 else 0))) := by
  have key : ∀ x : Int, a * x * x + m * x + V0 = N ↔ (2 * a * x + m) * (2 * a * x + m) = S := by
    intro x
    have e : (2 * a * x + m) * (2 * a * x + m) = S + 4 * a * (a * x * x + m * x + V0 - N) := by rw [hS]; grind
    constructor
    · intro h
      rw [e, h]
      have : N - N = 0 := by omega
      rw [this]
      omega
    · intro h
      rw [e] at h
      have h2 : 4 * a * (a * x * x + m * x + V0 - N) = 0 := by omega
      rcases Int.mul_eq_zero.mp h2 with h3 | h3 <;> omega
  refine ⟨fun h x hx => ?_, fun h0 h1 h2 => ⟨fun hne x hx => ?_, fun he => ?_⟩⟩
  · have := (key x).mp hx
    have := qf_sq (2 * a * x + m)
    omega
  · have h3 := (key x).mp hx
    apply hne
    generalize 2 * a * x + m = t at h3
    have t1 : -r ≤ t ∧ t ≤ r := by
      constructor
      · rcases qf_lg t (-r) with g | g
        · have : 0 ≤ (-t - (r + 1)) * (-t + (r + 1)) := Int.mul_nonneg (by omega) (by omega)
          have e : (-t - (r + 1)) * (-t + (r + 1)) = t * t - (r + 1) * (r + 1) := by grind
          omega
        · exact g
      · rcases qf_lg r t with g | g
        · have : 0 ≤ (t - (r + 1)) * (t + (r + 1)) := Int.mul_nonneg (by omega) (by omega)
          have e : (t - (r + 1)) * (t + (r + 1)) = t * t - (r + 1) * (r + 1) := by grind
          omega
        · exact g
    have : 0 ≤ (r - t) * (r + t) := Int.mul_nonneg (by omega) (by omega)
    have e : (r - t) * (r + t) = r * r - t * t := by grind
    omega
  · have key2 : ∀ x : Int, a * x * x + m * x + V0 = N ↔ (2 * a * x + m = r ∨ 2 * a * x + m = -r) := by
      intro x
      rw [key x, ← he]
      constructor
      · intro h
        have e : (2 * a * x + m - r) * (2 * a * x + m + r) = 0 := by
          have : (2 * a * x + m - r) * (2 * a * x + m + r) = (2 * a * x + m) * (2 * a * x + m) - r * r := by grind
          omega
        rcases Int.mul_eq_zero.mp e with e | e
        · left; omega
        · right; omega
      · rintro (h | h) <;> rw [h] <;> grind
    have k1 : ∀ x : Int, 2 * a * x + m = r ↔ (2 * a) * x = r - m := fun x => by omega
    have k2 : ∀ x : Int, 2 * a * x + m = -r ↔ (2 * a) * (-x) = r + m := fun x => by rw [Int.mul_neg]; omega
    have cancel : ∀ x y : Int, (2 * a) * x = (2 * a) * y → x = y := fun x y h => Int.eq_of_mul_eq_mul_left (by omega) h
    by_cases d1 : (2 * a) ∣ (r - m)
    · obtain ⟨x1, e1⟩ := d1
      by_cases d2 : r ≠ 0 ∧ (2 * a) ∣ (r + m)
      · obtain ⟨hr0, x2, e2⟩ := d2
        have hx : x1 ≠ -x2 := by
          intro h
          rw [h, Int.mul_neg] at e1
          omega
        refine ⟨[x1, -x2], by simp [hx], fun x => ?_, ?_⟩
        · rw [key2, k1, k2]
          simp only [List.mem_cons, List.not_mem_nil, or_false]
          constructor
          · rintro (h | h)
            · left; rw [h, e1]
            · right; rw [h, Int.neg_neg, e2]
          · rintro (h | h)
            · left; exact cancel _ _ (by rw [h, e1])
            · right
              have := cancel (-x) x2 (by rw [h, e2])
              omega
        · rw [if_pos ⟨x1, e1⟩, if_pos ⟨hr0, x2, e2⟩]
          rfl
      · refine ⟨[x1], by simp, fun x => ?_, ?_⟩
        · rw [key2, k1, k2]
          simp only [List.mem_cons, List.not_mem_nil, or_false]
          constructor
          · intro h
            left; rw [h, e1]
          · rintro (h | h)
            · exact cancel _ _ (by rw [h, e1])
            · by_cases hr0 : r = 0
              · have h3 : (2 * a) * x = r - m := by rw [Int.mul_neg] at h; omega
                exact cancel _ _ (by rw [h3, e1])
              · exact absurd ⟨hr0, -x, h.symm⟩ d2
        · rw [if_pos ⟨x1, e1⟩, if_neg d2]
          rfl
    · by_cases d2 : r ≠ 0 ∧ (2 * a) ∣ (r + m)
      · obtain ⟨hr0, x2, e2⟩ := d2
        refine ⟨[-x2], by simp, fun x => ?_, ?_⟩
        · rw [key2, k1, k2]
          simp only [List.mem_cons, List.not_mem_nil, or_false]
          constructor
          · intro h
            right; rw [h, Int.neg_neg, e2]
          · rintro (h | h)
            · exact absurd ⟨x, h.symm⟩ d1
            · have := cancel (-x) x2 (by rw [h, e2])
              omega
        · rw [if_neg d1, if_pos ⟨hr0, x2, e2⟩]
          rfl
      · refine ⟨[], by simp, fun x => ?_, ?_⟩
        · rw [key2, k1, k2]
          simp only [List.not_mem_nil, false_iff]
          rintro (h | h)
          · exact d1 ⟨x, h.symm⟩
          · by_cases hr0 : r = 0
            · have h3 : (2 * a) * x = r - m := by rw [Int.mul_neg] at h; omega
              exact d1 ⟨x, h3.symm⟩
            · exact d2 ⟨hr0, -x, h.symm⟩
        · rw [if_neg d1, if_neg d2]
          rfl
