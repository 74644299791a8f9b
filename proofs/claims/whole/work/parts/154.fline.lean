/-! lines: the reference's findLine -/
theorem ix_div {a b : Nat} (ha : a ≤ 2147483647) (hb : b ≤ 2147483647) : ix a / ix b = ix (a / b) := by
  unfold ix
  rw [zi_div ⟨by omega, by omega⟩ ⟨by omega, by omega⟩, Int.tdiv_eq_ediv_of_nonneg (by omega)]
  rfl
theorem ix_mod {a b : Nat} (ha : a ≤ 2147483647) (hb : b ≤ 2147483647) : ix a - ix a / ix b * ix b = ix (a % b) := by
  unfold ix
  rw [zi_rem ⟨by omega, by omega⟩ ⟨by omega, by omega⟩, Int.tmod_eq_emod_of_nonneg (by omega)]
  rfl
theorem ix_wide {a : Nat} (ha : a ≤ 2147483647) : (ix a).toInt64 = Int64.ofInt (a : Int) := zi_wide ⟨by omega, by omega⟩
theorem zl_dvd {a b : Int} (ha : rL a) (hb : rL b) (hb0 : 0 < b) : (Int64.ofInt a - Int64.ofInt a / Int64.ofInt b * Int64.ofInt b = 0) ↔ b ∣ a := by
  have h1 := Int.tmod_lt_of_pos a hb0
  have h2 := Int.lt_tmod_of_pos a hb0
  rw [zl_rem ha hb, zl_0, zl_eq ⟨by omega, by omega⟩ ⟨by omega, by omega⟩]
  exact ⟨Int.dvd_of_tmod_eq_zero, Int.tmod_eq_zero_of_dvd⟩
abbrev cp1 (p c : Nat) : Prop := c / (p * p) = 1 ∨ c / (p * p) = 0 ∧ (c / p % p = 1 ∨ c / p % p = 0 ∧ c % p = 1)
def cpv (p c : Nat) : V3 := (((c / (p * p) : Nat) : Int), ((c / p % p : Nat) : Int), ((c % p : Nat) : Int))
def cpl (p c k : Nat) : List V3 := ((List.range' c k).filter (fun c => decide (c / (p * p) = 1 ∨ c / (p * p) = 0 ∧ (c / p % p = 1 ∨ c / p % p = 0 ∧ c % p = 1)))).map (cpv p)
theorem cpl_all : cpl 3 1 17 = ptsP 3 ∧ cpl 5 1 49 = ptsP 5 ∧ cpl 7 1 97 = ptsP 7 := by decide +kernel
theorem cpl_s (p c k : Nat) : cpl p c (k + 1) = if cp1 p c then cpv p c :: cpl p (c + 1) k else cpl p (c + 1) k := by
  unfold cpl cp1
  rw [List.range'_succ]
  by_cases h : c / (p * p) = 1 ∨ c / (p * p) = 0 ∧ (c / p % p = 1 ∨ c / p % p = 0 ∧ c % p = 1)
  · rw [List.filter_cons_of_pos (by simpa using h), if_pos h, List.map_cons]
  · rw [List.filter_cons_of_neg (by simpa using h), if_neg h]
/-- one turn of the loop over codes -/
theorem f7_body {p c : Nat} (hp : p = 3 ∨ p = 5 ∨ p = 7) (hc : c ≤ 1000) (q line : (Nat → Int64)) (k161 : (Nat → Int64) → Option (Int32 × Int32 × (Nat → Int64))) (n : Nat) (left : Int32) : fX7_findLine_L7 (ix p) q k161 (n + 1) left (ix c) 0 line = if cp1 p (c + 1) then (bd1 (fX7_valueOf q (Int64.ofInt (cpv p (c + 1)).1) (Int64.ofInt (cpv p (c + 1)).2.1) (Int64.ofInt (cpv p (c + 1)).2.2)) (fun r => if r - r / Int64.ofInt (p : Int) * Int64.ofInt (p : Int) = 0 then (if left = 0 then fX7_findLine_L7 (ix p) q k161 n (left + -1) (ix (c + 1)) 1 (up3 line 0 (Int64.ofInt (cpv p (c + 1)).1) (Int64.ofInt (cpv p (c + 1)).2.1) (Int64.ofInt (cpv p (c + 1)).2.2)) else fX7_findLine_L7 (ix p) q k161 n (left + -1) (ix (c + 1)) 0 (up3 line 0 (Int64.ofInt (cpv p (c + 1)).1) (Int64.ofInt (cpv p (c + 1)).2.1) (Int64.ofInt (cpv p (c + 1)).2.2))) else fX7_findLine_L7 (ix p) q k161 n left (ix (c + 1)) 0 line)) else fX7_findLine_L7 (ix p) q k161 n left (ix (c + 1)) 0 line := by
  have hp0 : ¬ ix p = 0 := by rw [ix_0, ix_eq (by omega) (by omega)]; omega
  have hpp : p * p ≤ 49 ∧ 9 ≤ p * p := by rcases hp with e | e | e <;> subst e <;> decide
  have hp2 : ¬ ix (p * p) = 0 := by rw [ix_0, ix_eq (by omega) (by omega)]; omega
  have hpl : ¬ Int64.ofInt (p : Int) = 0 := by rw [zl_0, zl_eq ⟨by omega, by omega⟩ ⟨by omega, by omega⟩]; omega
  have b1 : (c + 1) / (p * p) ≤ 1001 := Nat.le_trans (Nat.div_le_self _ _) (by omega)
  have b2 : (c + 1) / p ≤ 1001 := Nat.le_trans (Nat.div_le_self _ _) (by omega)
  have b3 : (c + 1) / p % p ≤ 1001 := Nat.le_trans (Nat.mod_le _ _) b2
  have b4 : (c + 1) % p ≤ 1001 := Nat.le_trans (Nat.mod_le _ _) (by omega)
  have h10 : ¬ (1 : Int32) = 0 := by decide
  rw [fX7_findLine_L7]
  simp only [nm_eq, ↓reduceIte]
  have eq1 : ix c + 1 = ix (c + 1) := by rw [ix_1, ix_add]
  have eq2 : ix p * ix p = ix (p * p) := ix_mul p p
  simp only [eq1, eq2]
  have eq3 : ix (c + 1) / ix (p * p) = ix ((c + 1) / (p * p)) := ix_div (by omega) (by omega)
  have eq4 : ix (c + 1) - ix (c + 1) / ix p * ix p = ix ((c + 1) % p) := ix_mod (by omega) (by omega)
  have eq5 : ix (c + 1) / ix p = ix ((c + 1) / p) := ix_div (by omega) (by omega)
  have eq6 : ix ((c + 1) / p) - ix ((c + 1) / p) / ix p * ix p = ix ((c + 1) / p % p) := ix_mod (by omega) (by omega)
  simp only [eq3, eq4]
  simp only [eq5]
  simp only [eq6]
  rw [if_pos hp2, if_pos hp0]
  simp only [if_pos hp0]
  rw [ix_wide (a := (c + 1) / (p * p)) (by omega), ix_wide (a := (c + 1) / p % p) (by omega), ix_wide (a := (c + 1) % p) (by omega), ix_wide (a := p) (by omega)]
  simp only [if_pos hpl, h10, ↓reduceIte]
  have k : ∀ (t : Nat) (u : Nat), t ≤ 1001 → u ≤ 1 → (Int64.ofInt (t : Int) = Int64.ofInt (u : Int) ↔ t = u) := fun t u ht hu => by rw [zl_eq ⟨by omega, by omega⟩ ⟨by omega, by omega⟩]; omega
  have k1 : Int64.ofInt (((c + 1) / (p * p) : Nat) : Int) = 1 ↔ (c + 1) / (p * p) = 1 := k _ 1 b1 (by decide)
  have k2 : Int64.ofInt (((c + 1) / (p * p) : Nat) : Int) = 0 ↔ (c + 1) / (p * p) = 0 := k _ 0 b1 (by decide)
  have k3 : Int64.ofInt (((c + 1) / p % p : Nat) : Int) = 1 ↔ (c + 1) / p % p = 1 := k _ 1 b3 (by decide)
  have k4 : Int64.ofInt (((c + 1) / p % p : Nat) : Int) = 0 ↔ (c + 1) / p % p = 0 := k _ 0 b3 (by decide)
  have k5 : Int64.ofInt (((c + 1) % p : Nat) : Int) = 1 ↔ (c + 1) % p = 1 := k _ 1 b4 (by decide)
  simp only [k1, k2, k3, k4, k5]
  unfold cp1
  by_cases g1 : (c + 1) / (p * p) = 1
  · rw [if_pos g1, if_pos (Or.inl g1)]
    rfl
  · rw [if_neg g1]
    by_cases g2 : (c + 1) / (p * p) = 0
    · rw [if_pos g2]
      by_cases g3 : (c + 1) / p % p = 1
      · rw [if_pos g3, if_pos (Or.inr ⟨g2, Or.inl g3⟩)]
        rfl
      · rw [if_neg g3]
        by_cases g4 : (c + 1) / p % p = 0
        · rw [if_pos g4]
          by_cases g5 : (c + 1) % p = 1
          · rw [if_pos g5, if_pos (Or.inr ⟨g2, Or.inr ⟨g4, g5⟩⟩)]
            rfl
          · rw [if_neg g5, if_neg (by omega)]
        · rw [if_neg g4, if_neg (by omega)]
    · rw [if_neg g2, if_neg (by omega)]
