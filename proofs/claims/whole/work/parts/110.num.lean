/-! the machine's numbers by whole ones -/
abbrev rI (a : Int) : Prop := -2147483648 ≤ a ∧ a ≤ 2147483647
abbrev rL (a : Int) : Prop := -9223372036854775808 ≤ a ∧ a ≤ 9223372036854775807
theorem zi_toInt {a : Int} (h : rI a) : (Int32.ofInt a).toInt = a := Int32.toInt_ofInt_of_le (by omega) (by omega)
theorem zl_toInt {a : Int} (h : rL a) : (Int64.ofInt a).toInt = a := Int64.toInt_ofInt_of_le (by omega) (by omega)
theorem zi_le {a b : Int} (ha : rI a) (hb : rI b) : Int32.ofInt a ≤ Int32.ofInt b ↔ a ≤ b := by rw [Int32.le_iff_toInt_le, zi_toInt ha, zi_toInt hb]
theorem zi_lt {a b : Int} (ha : rI a) (hb : rI b) : Int32.ofInt a < Int32.ofInt b ↔ a < b := by rw [Int32.lt_iff_toInt_lt, zi_toInt ha, zi_toInt hb]
theorem zi_eq {a b : Int} (ha : rI a) (hb : rI b) : Int32.ofInt a = Int32.ofInt b ↔ a = b := by rw [← Int32.toInt_inj, zi_toInt ha, zi_toInt hb]
theorem zl_le {a b : Int} (ha : rL a) (hb : rL b) : Int64.ofInt a ≤ Int64.ofInt b ↔ a ≤ b := by rw [Int64.le_iff_toInt_le, zl_toInt ha, zl_toInt hb]
theorem zl_lt {a b : Int} (ha : rL a) (hb : rL b) : Int64.ofInt a < Int64.ofInt b ↔ a < b := by rw [Int64.lt_iff_toInt_lt, zl_toInt ha, zl_toInt hb]
theorem zl_eq {a b : Int} (ha : rL a) (hb : rL b) : Int64.ofInt a = Int64.ofInt b ↔ a = b := by rw [← Int64.toInt_inj, zl_toInt ha, zl_toInt hb]
theorem zi_div {a b : Int} (ha : rI a) (hb : rI b) : Int32.ofInt a / Int32.ofInt b = Int32.ofInt (a.tdiv b) := (Int32.ofInt_tdiv (by exact ha.1) (by exact ha.2) (by exact hb.1) (by exact hb.2)).symm
theorem zl_div {a b : Int} (ha : rL a) (hb : rL b) : Int64.ofInt a / Int64.ofInt b = Int64.ofInt (a.tdiv b) := (Int64.ofInt_tdiv (by exact ha.1) (by exact ha.2) (by exact hb.1) (by exact hb.2)).symm
theorem zi_rem {a b : Int} (ha : rI a) (hb : rI b) : Int32.ofInt a - Int32.ofInt a / Int32.ofInt b * Int32.ofInt b = Int32.ofInt (a.tmod b) := by
  rw [zi_div ha hb, ← Int32.ofInt_mul, ← Int32.ofInt_sub, Int.tmod_def, Int.mul_comm]
theorem zl_rem {a b : Int} (ha : rL a) (hb : rL b) : Int64.ofInt a - Int64.ofInt a / Int64.ofInt b * Int64.ofInt b = Int64.ofInt (a.tmod b) := by
  rw [zl_div ha hb, ← Int64.ofInt_mul, ← Int64.ofInt_sub, Int.tmod_def, Int.mul_comm]
theorem zi_nat {a : Int} (h : rI a) : (Int32.ofInt a).toNatClampNeg = a.toNat := by
  show (Int32.ofInt a).toInt.toNat = a.toNat
  rw [zi_toInt h]
theorem zi_ok {a : Int} {n : Nat} (h1 : 0 ≤ a) (h2 : a < n) (h3 : n ≤ 2147483647) : okI (Int32.ofInt a) n := by
  unfold okI
  have hr : rI a := ⟨by omega, by omega⟩
  have h0 : (0 : Int32) = Int32.ofInt 0 := rfl
  rw [zi_nat hr, h0, zi_lt hr ⟨by omega, by omega⟩]
  omega
theorem zi_wide {a : Int} (h : rI a) : (Int32.ofInt a).toInt64 = Int64.ofInt a := Int32.toInt64_ofInt h.1 h.2
theorem zi_narrow (a : Int) : (Int64.ofInt a).toInt32 = Int32.ofInt a := by simp
theorem zi_xor {x y : Int32} (hy : 0 < y.toInt) : 0 ≤ x ^^^ y ↔ 0 ≤ x.toInt := by
  have k : ∀ z : Int32, (0 ≤ z ↔ z.toBitVec.msb = false) := fun z => by
    rw [Int32.le_iff_toInt_le, BitVec.msb_eq_toInt]
    show (0 : Int) ≤ z.toBitVec.toInt ↔ _
    simp
  have k2 : ∀ z : Int32, (0 ≤ z.toInt ↔ z.toBitVec.msb = false) := fun z => by
    rw [BitVec.msb_eq_toInt]
    show (0 : Int) ≤ z.toBitVec.toInt ↔ _
    simp
  have hy2 := (k2 y).mp (by omega)
  rw [k, k2]
  show (x.toBitVec ^^^ y.toBitVec).msb = false ↔ _
  rw [BitVec.msb_xor, hy2, Bool.xor_false]
theorem zi_fl {a b x : Int} (hb : 0 < b) (h1 : b * x ≤ a) (h2 : a < b * x + b) : a / b = x := by
  have h5 := Int.emod_nonneg a (by omega : b ≠ 0)
  have h6 := Int.emod_lt_of_pos a hb
  have h7 := Int.emod_add_mul_ediv a b
  rcases qf_tri (a / b - x) 0 with t | t | t
  · have := Int.mul_nonneg (Int.le_of_lt hb) (by omega : (0 : Int) ≤ -1 - (a / b - x))
    have e9 : b * (-1 - (a / b - x)) = -b - b * (a / b) + b * x := by grind
    omega
  · omega
  · have := Int.mul_nonneg (Int.le_of_lt hb) (by omega : (0 : Int) ≤ (a / b - x) - 1)
    have e9 : b * ((a / b - x) - 1) = -b + b * (a / b) - b * x := by grind
    omega
theorem zi_floorDiv {a b : Int} (ha : rI a) (hb : rI b) (hb0 : 0 < b) : fJ9_floorDiv_7cf53 (Int32.ofInt a) (Int32.ofInt b) = some (Int32.ofInt (a / b)) := by
  unfold fJ9_floorDiv_7cf53
  have h0 : (0 : Int32) = Int32.ofInt 0 := rfl
  have h1 : (1 : Int32) = Int32.ofInt 1 := rfl
  rw [if_pos (by rw [h0, zi_eq hb ⟨by omega, by omega⟩]; omega)]
  simp only [nm_eq]
  have hx : 0 ≤ Int32.ofInt a ^^^ Int32.ofInt b ↔ 0 ≤ a := by rw [zi_xor (by rw [zi_toInt hb]; exact hb0), zi_toInt ha]
  by_cases h : 0 ≤ a
  · rw [if_pos (hx.mpr h), zi_div ha hb, Int.tdiv_eq_ediv_of_nonneg h]
  · rw [if_neg (fun g => h (hx.mp g)), zi_div ha hb]
    obtain ⟨m, hm⟩ : ∃ m, a = -m := ⟨-a, by omega⟩
    subst hm
    rw [Int.neg_tdiv, Int.tdiv_eq_ediv_of_nonneg (by omega)]
    have h5 := Int.emod_nonneg m (by omega : b ≠ 0)
    have h6 := Int.emod_lt_of_pos m hb0
    have h7 := Int.emod_add_mul_ediv m b
    have h8 : -(m / b) * b = -(b * (m / b)) := by grind
    have hr : rI (-(m / b) * b) := by rw [h8]; constructor <;> omega
    rw [← Int32.ofInt_mul]
    by_cases g : -(m / b) * b = -m
    · rw [if_pos ((zi_eq hr ha).mpr g)]
      rw [zi_fl (a := -m) (x := -(m / b)) hb0 (by rw [Int.mul_neg]; omega) (by rw [Int.mul_neg]; omega)]
    · rw [if_neg (fun g2 => g ((zi_eq hr ha).mp g2)), h1, ← Int32.ofInt_sub]
      rw [zi_fl (a := -m) (x := -(m / b) - 1) hb0 (by rw [Int.mul_sub, Int.mul_neg]; omega) (by rw [Int.mul_sub, Int.mul_neg]; omega)]
theorem zi_floorMod {a b : Int} (ha : rI a) (hb : rI b) (hb0 : 0 < b) : fJ9_floorMod_7cf53 (Int32.ofInt a) (Int32.ofInt b) = some (Int32.ofInt (a % b)) := by
  unfold fJ9_floorMod_7cf53
  have h0 : (0 : Int32) = Int32.ofInt 0 := rfl
  rw [if_pos (by rw [h0, zi_eq hb ⟨by omega, by omega⟩]; omega)]
  simp only [nm_eq]
  have hx : 0 ≤ Int32.ofInt a ^^^ Int32.ofInt b ↔ 0 ≤ a := by rw [zi_xor (by rw [zi_toInt hb]; exact hb0), zi_toInt ha]
  rw [zi_rem ha hb]
  by_cases h : 0 ≤ a
  · rw [if_pos (hx.mpr h), Int.tmod_eq_emod_of_nonneg h]
  · rw [if_neg (fun g => h (hx.mp g))]
    obtain ⟨m, hm⟩ : ∃ m, a = -m := ⟨-a, by omega⟩
    subst hm
    rw [Int.neg_tmod, Int.tmod_eq_emod_of_nonneg (by omega)]
    have h5 := Int.emod_nonneg m (by omega : b ≠ 0)
    have h6 := Int.emod_lt_of_pos m hb0
    have h7 := Int.emod_add_mul_ediv m b
    have h9 := Int.emod_add_mul_ediv (-m) b
    rw [h0]
    have hz : Int32.ofInt (-(m % b)) = Int32.ofInt 0 ↔ -(m % b) = 0 := zi_eq (by constructor <;> omega) (by constructor <;> omega)
    by_cases g : -(m % b) = 0
    · rw [if_pos (hz.mpr g)]
      rw [zi_fl (a := -m) (x := -(m / b)) hb0 (by rw [Int.mul_neg]; omega) (by rw [Int.mul_neg]; omega), Int.mul_neg] at h9
      congr 2
      omega
    · rw [if_neg (fun g2 => g (hz.mp g2)), ← Int32.ofInt_add]
      rw [zi_fl (a := -m) (x := -(m / b) - 1) hb0 (by rw [Int.mul_sub, Int.mul_neg]; omega) (by rw [Int.mul_sub, Int.mul_neg]; omega), Int.mul_sub, Int.mul_neg] at h9
      congr 2
      omega
