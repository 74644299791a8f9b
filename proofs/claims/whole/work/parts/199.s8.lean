/-! the class's box; the call turns -/
theorem x3_init1 : ∀ (k n m : Nat) (r : Nat → Int32), m + k = 27 → k + 1 ≤ n → (∀ j, j < m → av r (3 * j) (bv j)) → ∃ r', fX3_init_L62 n (ix m) r = some r' ∧ bxA r' := by
  intro k
  induction k with
  | zero =>
    intro n m r e1 e2 h
    obtain ⟨n, rfl⟩ : ∃ i, n = i + 1 := ⟨n - 1, by omega⟩
    have e : m = 27 := by omega
    subst e
    exact ⟨r, by rw [fX3_init_L62, if_pos (by decide)], h⟩
  | succ k ih =>
    intro n m r e1 e2 h
    obtain ⟨n, rfl⟩ : ∃ i, n = i + 1 := ⟨n - 1, by omega⟩
    have i0 : (3 : Int32) * ix m = ix (3 * m) := by rw [ix_3, ix_mul]
    have i1 : (3 : Int32) * ix m + 1 = ix (3 * m + 1) := by rw [i0, ix_1, ix_add]
    have i2 : (3 : Int32) * ix m + 2 = ix (3 * m + 2) := by rw [i0, ix_2, ix_add]
    have d9 : ix m / 9 = ix (m / 9) := by rw [ix_9, ix_div (by omega) (by decide)]
    have d3 : ix m / 3 = ix (m / 3) := by rw [ix_3, ix_div (by omega) (by decide)]
    have m3 : ix (m / 3) - ix (m / 3) / 3 * 3 = ix (m / 3 % 3) := by rw [ix_3, ix_mod (by omega) (by decide)]
    have m1 : ix m - ix m / 3 * 3 = ix (m % 3) := by rw [ix_3, ix_mod (by omega) (by decide)]
    obtain ⟨r', f1, f2⟩ := ih n (m + 1) (upd (upd (upd r (3 * m) (Int32.ofInt (((m / 9 : Nat) : Int) - 1))) (3 * m + 1) (Int32.ofInt (((m / 3 % 3 : Nat) : Int) - 1))) (3 * m + 2) (Int32.ofInt (((m % 3 : Nat) : Int) - 1))) (by omega) (by omega) (by
      intro j hj
      by_cases g : j = m
      · subst g
        refine ⟨?_, ?_, ?_⟩
        · simp [upd, bv]
        · simp [upd, bv]
        · simp [upd, bv]
      · obtain ⟨h0, h1, h2⟩ := h j (by omega)
        refine ⟨?_, ?_, ?_⟩
        · rw [← h0]; unfold upd; rw [if_neg (by omega), if_neg (by omega), if_neg (by omega)]
        · rw [← h1]; unfold upd; rw [if_neg (by omega), if_neg (by omega), if_neg (by omega)]
        · rw [← h2]; unfold upd; rw [if_neg (by omega), if_neg (by omega), if_neg (by omega)])
    refine ⟨r', ?_, f2⟩
    rw [fX3_init_L62, if_neg (by rw [ix_27, ix_le (by decide) (by omega)]; omega)]
    dsimp only [nm_eq]
    simp only [i1, i2]
    simp only [i0]
    rw [if_pos (ix_ok (by omega) (by decide)), if_pos (ix_ok (by omega) (by decide)), if_pos (ix_ok (by omega) (by decide)), m1, d3, m3, d9, ix_m1 (by omega), ix_m1 (by omega), ix_m1 (by omega), ix_nat (by omega), ix_nat (by omega), ix_nat (by omega), ix_1, ix_add]
    exact f1
theorem x3_init {F : Nat} (hF : 100 ≤ F) : ∃ r', fX3_init F = some r' ∧ bxA r' := by
  unfold fX3_init
  rw [ix_0]
  exact x3_init1 27 F 0 (fun _ => 0) (by omega) (by omega) (fun j hj => by omega)
