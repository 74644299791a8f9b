/-! least terms -/
def zn (n : Nat) : Int64 := Int64.ofInt (n : Int)
theorem zn_add (a b : Nat) : zn a + zn b = zn (a + b) := by unfold zn; rw [← Int64.ofInt_add]; rfl
theorem zn_mul (a b : Nat) : zn a * zn b = zn (a * b) := by unfold zn; rw [← Int64.ofInt_mul, Int.natCast_mul]
theorem zn_div {a b : Nat} (ha : a ≤ 1000000000000) (hb : b ≤ 1000000000000) : zn a / zn b = zn (a / b) := by
  unfold zn
  rw [zl_div ⟨by omega, by omega⟩ ⟨by omega, by omega⟩, Int.tdiv_eq_ediv_of_nonneg (by omega)]
  rfl
theorem zn_mod {a b : Nat} (ha : a ≤ 1000000000000) (hb : b ≤ 1000000000000) : zn a - zn a / zn b * zn b = zn (a % b) := by
  unfold zn
  rw [zl_rem ⟨by omega, by omega⟩ ⟨by omega, by omega⟩, Int.tmod_eq_emod_of_nonneg (by omega)]
  rfl
theorem zn_eq {a b : Nat} (ha : a ≤ 1000000000000) (hb : b ≤ 1000000000000) : zn a = zn b ↔ a = b := by unfold zn; rw [zl_eq ⟨by omega, by omega⟩ ⟨by omega, by omega⟩]; omega
theorem zn_0 : (0 : Int64) = zn 0 := rfl
theorem zn_1 : (1 : Int64) = zn 1 := rfl
theorem gcd_st (a b : Nat) : Nat.gcd b (a % b) = Nat.gcd a b := by rw [Nat.gcd_comm b, ← Nat.gcd_rec, Nat.gcd_comm]
theorem l7_common1 : ∀ (b a n : Nat), b + 1 ≤ n → a ≤ 1000000000000 → b ≤ 1000000000000 → fX7_common_L6 n (zn a) (zn b) = some (zn (Nat.gcd a b)) := by
  intro b
  induction b using Nat.strongRecOn with
  | _ b ih =>
    intro a n hn ha hb
    obtain ⟨n, rfl⟩ : ∃ m, n = m + 1 := ⟨n - 1, by omega⟩
    rw [fX7_common_L6]
    by_cases h0 : b = 0
    · subst h0
      rw [if_pos (show zn 0 = 0 from rfl), Nat.gcd_zero_right]
    · have hne : ¬ zn b = 0 := by rw [zn_0, zn_eq hb (by omega)]; exact h0
      rw [if_neg hne, if_pos hne]
      simp only [nm_eq]
      have hlt := Nat.mod_lt a (by omega : b > 0)
      rw [zn_mod ha hb, ih (a % b) hlt b n (by omega) hb (by omega), gcd_st]
theorem l7_common {a b : Nat} (ha : a ≤ 1000000000) (hb : b ≤ 1000000000) {F : Nat} (hF : 4000000000000 ≤ F) : fX7_common F (zn a) (zn b) = some (zn (Nat.gcd a b)) := l7_common1 b a F (by omega) (by omega) (by omega)
theorem x6_common1 : ∀ (k a b s n : Nat), b < 2 ^ k → s + 2 * k + 1 ≤ 128 → 2 * k + 2 ≤ n → a ≤ 1000000000000 → b ≤ 1000000000000 → fX6_commonOf_L9 n (zn a) (zn b) (ix s) = some (zn (Nat.gcd a b)) := by
  have e128 : (128 : Int32) = ix 128 := rfl
  have end0 : ∀ (a s n : Nat), fX6_commonOf_L9 (n + 1) (zn a) (zn 0) (ix s) = some (zn a) := by
    intro a s n
    rw [fX6_commonOf_L9]
    simp only [nm_eq]
    by_cases g : (128 : Int32) ≤ ix s
    · rw [if_pos g]
    · rw [if_neg g, if_pos (show zn 0 = 0 from rfl)]
  have st : ∀ (a b s n : Nat), b ≠ 0 → s < 128 → a ≤ 1000000000000 → b ≤ 1000000000000 → fX6_commonOf_L9 (n + 1) (zn a) (zn b) (ix s) = fX6_commonOf_L9 n (zn b) (zn (a % b)) (ix (s + 1)) := by
    intro a b s n h0 hs ha hb
    have hne : ¬ zn b = 0 := by rw [zn_0, zn_eq hb (by omega)]; exact h0
    rw [fX6_commonOf_L9]
    simp only [nm_eq]
    rw [if_neg (by rw [e128, ix_le (by omega) (by omega)]; omega), if_neg hne, if_pos hne, zn_mod ha hb, ix_1, ix_add]
  intro k
  induction k with
  | zero =>
    intro a b s n hb hs hn ha hb'
    have h0 : b = 0 := by simpa using hb
    subst h0
    obtain ⟨n, rfl⟩ : ∃ m, n = m + 1 := ⟨n - 1, by omega⟩
    rw [end0, Nat.gcd_zero_right]
  | succ k ih =>
    intro a b s n hb hs hn ha hb'
    obtain ⟨n, rfl⟩ : ∃ m, n = m + 1 := ⟨n - 1, by omega⟩
    by_cases h0 : b = 0
    · subst h0
      rw [end0, Nat.gcd_zero_right]
    · rw [st a b s n h0 (by omega) ha hb', ← gcd_st a b]
      have hlt := Nat.mod_lt a (by omega : b > 0)
      obtain ⟨n, rfl⟩ : ∃ m, n = m + 1 := ⟨n - 1, by omega⟩
      by_cases h1 : a % b = 0
      · rw [h1, end0, Nat.gcd_zero_right]
      · rw [st b (a % b) (s + 1) n h1 (by omega) hb' (by omega), ← gcd_st b (a % b)]
        have hlt2 := Nat.mod_lt b (by omega : a % b > 0)
        have hb2 : b % (a % b) < 2 ^ k := by
          have h3 := Nat.mod_add_div b (a % b)
          have h4 : 1 ≤ b / (a % b) := Nat.div_pos (by omega) (by omega)
          have h5 : a % b ≤ (a % b) * (b / (a % b)) := Nat.le_mul_of_pos_right _ (by omega)
          rw [Nat.pow_succ] at hb
          omega
        exact ih (a % b) (b % (a % b)) (s + 1 + 1) n hb2 (by omega) (by omega) (by omega) (by omega)
theorem x6_common {a b : Nat} (ha : a ≤ 1000000000) (hb : b ≤ 1000000000) {F : Nat} (hF : 1000 ≤ F) : fX6_commonOf F (zn a) (zn b) = some (zn (Nat.gcd a b)) := by
  have h := x6_common1 30 a b 0 F (by have e : (2 : Nat) ^ 30 = 1073741824 := by decide
                                      omega) (by omega) (by omega) (by omega) (by omega)
  exact h
theorem x6_terms {a b : Nat} (ha : a ≤ 1000000000) (hb : b ≤ 1000000000) (hb0 : 0 < b) (w : Int32) {F : Nat} (hF : 1000 ≤ F) : fX6_inLeastTerms F (zn a) (zn b) w = some (if w = 0 then zn (a / Nat.gcd a b) else zn (b / Nat.gcd a b)) := by
  unfold fX6_inLeastTerms
  have hg : 0 < Nat.gcd a b := Nat.gcd_pos_of_pos_right _ hb0
  have hg2 : Nat.gcd a b ≤ b := Nat.gcd_le_right _ hb0
  rw [x6_common ha hb hF]
  simp only [bd1, nm_eq]
  have hne : ¬ zn (Nat.gcd a b) = 0 := by rw [zn_0, zn_eq (by omega) (by omega)]; omega
  rw [if_pos (by unfold zn; rw [zl_0, zl_lt ⟨by omega, by omega⟩ ⟨by omega, by omega⟩]; omega), if_pos hne, if_pos hne, zn_div (by omega) (by omega), zn_div (by omega) (by omega)]
  split <;> rfl
/-- fractions that are the same have the same least terms -/
theorem fr_eq {a b c d : Nat} (hb : 0 < b) (hd : 0 < d) (h : a * d = c * b) : a / Nat.gcd a b = c / Nat.gcd c d ∧ b / Nat.gcd a b = d / Nat.gcd c d := by
  have e1 : Nat.gcd (a * d) (b * d) = Nat.gcd a b * d := Nat.gcd_mul_right a d b
  have e2 : Nat.gcd (c * b) (d * b) = Nat.gcd c d * b := Nat.gcd_mul_right c b d
  have f1 : a / Nat.gcd a b = (a * d) / Nat.gcd (a * d) (b * d) := by rw [e1, Nat.mul_div_mul_right _ _ hd]
  have f2 : b / Nat.gcd a b = (b * d) / Nat.gcd (a * d) (b * d) := by rw [e1, Nat.mul_div_mul_right _ _ hd]
  have f3 : c / Nat.gcd c d = (c * b) / Nat.gcd (c * b) (d * b) := by rw [e2, Nat.mul_div_mul_right _ _ hb]
  have f4 : d / Nat.gcd c d = (d * b) / Nat.gcd (c * b) (d * b) := by rw [e2, Nat.mul_div_mul_right _ _ hb]
  rw [f1, f2, f3, f4, h, Nat.mul_comm b d]
  exact ⟨rfl, rfl⟩
theorem fr_lo {a b : Nat} (hb : 0 < b) : a / Nat.gcd a b * b = a * (b / Nat.gcd a b) ∧ 0 < b / Nat.gcd a b ∧ a / Nat.gcd a b ≤ a ∧ b / Nat.gcd a b ≤ b := by
  obtain ⟨x, hx⟩ := Nat.gcd_dvd_left a b
  obtain ⟨y, hy⟩ := Nat.gcd_dvd_right a b
  have hg : 0 < Nat.gcd a b := Nat.gcd_pos_of_pos_right _ hb
  have e1 : a / Nat.gcd a b = x := by
    have : Nat.gcd a b * x / Nat.gcd a b = x := Nat.mul_div_cancel_left _ hg
    rw [← hx] at this
    exact this
  have e2 : b / Nat.gcd a b = y := by
    have : Nat.gcd a b * y / Nat.gcd a b = y := Nat.mul_div_cancel_left _ hg
    rw [← hy] at this
    exact this
  refine ⟨?_, Nat.div_gcd_pos_of_pos_right a hb, Nat.div_le_self _ _, Nat.div_le_self _ _⟩
  rw [e1, e2]
  generalize Nat.gcd a b = g at *
  subst hx; subst hy
  grind
/-- the reference's add: a sum of 48ths, in least terms -/
theorem l7_add {X t n : Nat} (hX : X ≤ 100000000) (ht : t ≤ 10000) (hn : n ∣ 48) (hn0 : 0 < n) {F : Nat} (hF : 4000000000000 ≤ F) : fX7_add F (zn (X / Nat.gcd X 48)) (zn (48 / Nat.gcd X 48)) (zn t) (zn n) = some (zn ((X + 48 / n * t) / Nat.gcd (X + 48 / n * t) 48), zn (48 / Nat.gcd (X + 48 / n * t) 48)) := by
  obtain ⟨h1, h2, h3, h4⟩ := fr_lo (a := X) (b := 48) (by decide)
  obtain ⟨m, hm⟩ := hn
  have em : 48 / n = m := by rw [hm]; exact Nat.mul_div_cancel_left _ hn0
  have hn48 : n ≤ 48 := Nat.le_of_dvd (by decide) ⟨m, hm⟩
  rw [em]
  generalize X / Nat.gcd X 48 = u at *
  generalize 48 / Nat.gcd X 48 = l at *
  unfold fX7_add
  simp only [nm_eq]
  rw [zn_mul, zn_mul, zn_add, zn_mul]
  have b1 : u * n ≤ 100000000 * 48 := Nat.mul_le_mul (by omega) hn48
  have b2 : t * l ≤ 10000 * 48 := Nat.mul_le_mul ht h4
  have b3 : l * n ≤ 48 * 48 := Nat.mul_le_mul h4 hn48
  have p3 : 0 < l * n := Nat.mul_pos h2 hn0
  have hc : fX7_common F (zn (u * n + t * l)) (zn (l * n)) = some (zn (Nat.gcd (u * n + t * l) (l * n))) := l7_common1 (l * n) (u * n + t * l) F (by omega) (by omega) (by omega)
  have hg : 0 < Nat.gcd (u * n + t * l) (l * n) := Nat.gcd_pos_of_pos_right _ p3
  have hg2 : Nat.gcd (u * n + t * l) (l * n) ≤ l * n := Nat.gcd_le_right _ p3
  rw [hc]
  simp only [bd1]
  have hne : ¬ zn (Nat.gcd (u * n + t * l) (l * n)) = 0 := by rw [zn_0, zn_eq (by omega) (by omega)]; omega
  rw [if_pos hne, if_pos hne, zn_div (by omega) (by omega), zn_div (by omega) (by omega)]
  have hcross : (u * n + t * l) * 48 = (X + m * t) * (l * n) := by
    have e1 : (u * n + t * l) * 48 = u * 48 * n + t * l * 48 := by grind
    rw [e1, h1]
    have e2 : t * l * 48 = t * l * (n * m) := by rw [← hm]
    rw [e2]
    grind
  obtain ⟨f1, f2⟩ := fr_eq p3 (by decide : 0 < 48) hcross
  rw [f1, f2]
theorem fr_mean {X S : Nat} (hS : 0 < S) : (X / Nat.gcd X 48 * (48 / Nat.gcd S 48)) / Nat.gcd (X / Nat.gcd X 48 * (48 / Nat.gcd S 48)) (48 / Nat.gcd X 48 * (S / Nat.gcd S 48)) = X / Nat.gcd X S ∧ (48 / Nat.gcd X 48 * (S / Nat.gcd S 48)) / Nat.gcd (X / Nat.gcd X 48 * (48 / Nat.gcd S 48)) (48 / Nat.gcd X 48 * (S / Nat.gcd S 48)) = S / Nat.gcd X S := by
  obtain ⟨h1, h2, _, _⟩ := fr_lo (a := X) (b := 48) (by decide)
  obtain ⟨k1, k2, _, _⟩ := fr_lo (a := S) (b := 48) (by decide)
  have hs : 0 < S / Nat.gcd S 48 := Nat.div_gcd_pos_of_pos_left 48 hS
  refine fr_eq (Nat.mul_pos h2 hs) hS ?_
  generalize X / Nat.gcd X 48 = xu at *
  generalize 48 / Nat.gcd X 48 = xl at *
  generalize S / Nat.gcd S 48 = su at *
  generalize 48 / Nat.gcd S 48 = sl at *
  have key : (xu * sl * S) * 48 = (X * (xl * su)) * 48 := by
    have e1 : xu * sl * S * 48 = (xu * 48) * (S * sl) := by grind
    have e2 : X * (xl * su) * 48 = (X * xl) * (su * 48) := by grind
    rw [e1, e2, h1, k1]
  exact Nat.eq_of_mul_eq_mul_right (by decide) key
