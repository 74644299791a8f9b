/-! calls: arguments and ranges -/
theorem lt_1 : (1 : Int32) = Int32.ofInt 1 := by decide
theorem lt_12 : (12 : Int32) = Int32.ofInt 12 := by decide
theorem lt_m12 : (-12 : Int32) = Int32.ofInt (-12) := by decide
theorem lq_1 : (1 : Int64) = Int64.ofInt 1 := by decide
theorem lq_12 : (12 : Int64) = Int64.ofInt 12 := by decide
theorem lq_m12 : (-12 : Int64) = Int64.ofInt (-12) := by decide
theorem z_ex (p0 : Int32) : ∃ z : Int, rI z ∧ p0 = Int32.ofInt z := ⟨p0.toInt, ⟨by have := p0.le_toInt; omega, by have := p0.toInt_lt; omega⟩, (Int32.ofInt_toInt p0).symm⟩
theorem x6_out {z a b : Int} (hz : rI z) (ha : rI a) (hb : rI b) : fX6_isOutside (Int32.ofInt z) (Int32.ofInt a) (Int32.ofInt b) = some (if a ≤ z ∧ z ≤ b then 0 else 1) := by
  unfold fX6_isOutside
  dsimp only [nm_eq]
  by_cases g1 : z < a
  · rw [if_pos ((zi_lt hz ha).mpr g1), if_pos (Or.inr rfl), if_neg (by omega)]
  · rw [if_neg (fun t => g1 ((zi_lt hz ha).mp t))]
    by_cases g2 : z ≤ b
    · rw [if_pos ((zi_le hz hb).mpr g2), if_pos (Or.inl rfl), if_pos ⟨by omega, g2⟩]
    · rw [if_neg (fun t => g2 ((zi_le hz hb).mp t)), if_pos (Or.inr rfl), if_neg (by omega)]
theorem x7_in {z a b : Int} (hz : rL z) (ha : rL a) (hb : rL b) : fX7_in (Int64.ofInt z) (Int64.ofInt a) (Int64.ofInt b) = some (if a ≤ z ∧ z ≤ b then 1 else 0) := by
  unfold fX7_in
  dsimp only [nm_eq]
  by_cases g1 : z < a
  · rw [if_pos ((zl_lt hz ha).mpr g1), if_pos (Or.inl rfl), if_neg (by omega)]
  · rw [if_neg (fun t => g1 ((zl_lt hz ha).mp t))]
    by_cases g2 : b < z
    · rw [if_pos ((zl_lt hb hz).mpr g2), if_pos (Or.inl rfl), if_neg (by omega)]
    · rw [if_neg (fun t => g2 ((zl_lt hb hz).mp t)), if_pos (Or.inr rfl), if_pos ⟨by omega, by omega⟩]
theorem x7_inI {z a b : Int} (hz : rI z) (ha : rI a) (hb : rI b) : fX7_in (Int32.ofInt z).toInt64 (Int64.ofInt a) (Int64.ofInt b) = some (if a ≤ z ∧ z ≤ b then 1 else 0) := by
  rw [zi_wide hz]
  exact x7_in ⟨by omega, by omega⟩ ⟨by omega, by omega⟩ ⟨by omega, by omega⟩
theorem x6_unk {h : Nat} (hh : h ≤ 12) {z : Int} (hz : rI z) : fX6_isUnknown (ix h) (Int32.ofInt z) = some (if 0 ≤ z ∧ z < h then 0 else 1) := by
  have e0 : (0 : Int32) = Int32.ofInt 0 := rfl
  unfold fX6_isUnknown
  dsimp only [nm_eq]
  by_cases g1 : z < 0
  · rw [if_pos (by rw [e0]; exact (zi_lt hz ⟨by omega, by omega⟩).mpr g1), if_pos (Or.inr rfl), if_neg (by omega)]
  · rw [if_neg (by rw [e0]; exact fun t => g1 ((zi_lt hz ⟨by omega, by omega⟩).mp t))]
    by_cases g2 : z < h
    · rw [if_pos (by unfold ix; exact (zi_lt hz ⟨by omega, by omega⟩).mpr g2), if_pos (Or.inl rfl), if_pos ⟨by omega, g2⟩]
    · rw [if_neg (by unfold ix; exact fun t => g2 ((zi_lt hz ⟨by omega, by omega⟩).mp t)), if_pos (Or.inr rfl), if_neg (by omega)]
theorem x7_isForm {h : Nat} (hh : h ≤ 12) {z : Int} (hz : rI z) : fX7_isForm (ix h) (Int32.ofInt z) = some (if 0 ≤ z ∧ z < h then 1 else 0) := by
  have e : (ix h - 1).toInt64 = Int64.ofInt ((h : Int) - 1) := by
    have e1 : (1 : Int32) = Int32.ofInt 1 := rfl
    unfold ix
    rw [e1, ← Int32.ofInt_sub, zi_wide ⟨by omega, by omega⟩]
  unfold fX7_isForm
  rw [e, zl_0, x7_inI hz ⟨by omega, by omega⟩ ⟨by omega, by omega⟩, bd1_s]
  by_cases g : 0 ≤ z ∧ z < h
  · rw [if_pos (show 0 ≤ z ∧ z ≤ (h : Int) - 1 from ⟨g.1, by omega⟩), if_pos g]
    rfl
  · rw [if_neg (show ¬ (0 ≤ z ∧ z ≤ (h : Int) - 1) by omega), if_neg g]
    rfl
theorem z_ix {z : Int} (h : 0 ≤ z) : Int32.ofInt z = ix z.toNat := by
  unfold ix
  rw [Int.toNat_of_nonneg h]
/-- the i-th of six numbers -/
def g6 (Q : F6) (i : Nat) : Int := if i = 0 then Q.1 else if i = 1 then Q.2.1 else if i = 2 then Q.2.2.1 else if i = 3 then Q.2.2.2.1 else if i = 4 then Q.2.2.2.2.1 else Q.2.2.2.2.2
theorem i6 {i : Nat} (h : i < 6) : i = 0 ∨ i = 1 ∨ i = 2 ∨ i = 3 ∨ i = 4 ∨ i = 5 := by omega
theorem a6_at {s : Nat → Int32} {Q : F6} (h : a6 s Q) {i : Nat} (hi : i < 6) : s i = Int32.ofInt (g6 Q i) := by
  obtain ⟨h0, h1, h2, h3, h4, h5⟩ := h
  rcases i6 hi with e | e | e | e | e | e <;> subst e
  · exact h0
  · exact h1
  · exact h2
  · exact h3
  · exact h4
  · exact h5
theorem al6_at {s : Nat → Int64} {Q : F6} (h : al6 s Q) {i : Nat} (hi : i < 6) : s i = Int64.ofInt (g6 Q i) := by
  obtain ⟨h0, h1, h2, h3, h4, h5⟩ := h
  rcases i6 hi with e | e | e | e | e | e <;> subst e
  · exact h0
  · exact h1
  · exact h2
  · exact h3
  · exact h4
  · exact h5
def g9 (M : T9) (i : Nat) : Int := if i = 0 then M.1.1 else if i = 1 then M.1.2.1 else if i = 2 then M.1.2.2 else if i = 3 then M.2.1.1 else if i = 4 then M.2.1.2.1 else if i = 5 then M.2.1.2.2 else if i = 6 then M.2.2.1 else if i = 7 then M.2.2.2.1 else M.2.2.2.2
theorem a9_at {s : Nat → Int32} {M : T9} (h : a9 s M) {i : Nat} (hi : i < 9) : s i = Int32.ofInt (g9 M i) := by
  obtain ⟨h0, h1, h2, h3, h4, h5, h6, h7, h8⟩ := h
  have : i = 0 ∨ i = 1 ∨ i = 2 ∨ i = 3 ∨ i = 4 ∨ i = 5 ∨ i = 6 ∨ i = 7 ∨ i = 8 := by omega
  rcases this with e | e | e | e | e | e | e | e | e <;> subst e <;> assumption
theorem al9_at {s : Nat → Int64} {M : T9} (h : al9 s M) {i : Nat} (hi : i < 9) : s i = Int64.ofInt (g9 M i) := by
  obtain ⟨h0, h1, h2, h3, h4, h5, h6, h7, h8⟩ := h
  have : i = 0 ∨ i = 1 ∨ i = 2 ∨ i = 3 ∨ i = 4 ∨ i = 5 ∨ i = 6 ∨ i = 7 ∨ i = 8 := by omega
  rcases this with e | e | e | e | e | e | e | e | e <;> subst e <;> assumption
/-- a form that the document takes -/
def inR (Q : F6) : Prop := (1 ≤ Q.1 ∧ Q.1 ≤ 12) ∧ (1 ≤ Q.2.1 ∧ Q.2.1 ≤ 12) ∧ (1 ≤ Q.2.2.1 ∧ Q.2.2.1 ≤ 12) ∧ (-12 ≤ Q.2.2.2.1 ∧ Q.2.2.2.1 ≤ 12) ∧ (-12 ≤ Q.2.2.2.2.1 ∧ Q.2.2.2.2.1 ≤ 12) ∧ (-12 ≤ Q.2.2.2.2.2 ∧ Q.2.2.2.2.2 ≤ 12)
def fitQ (Q : F6) : Prop := inR Q ∧ 0 < 4 * Q.1 * Q.2.1 - Q.2.2.2.2.2 * Q.2.2.2.2.2 ∧ 0 < qf_disc Q
theorem fit_pd {Q : F6} (h : fitQ Q) : qf_pd Q := ⟨by have := h.1.1.1; omega, h.2.1, h.2.2⟩
theorem fit_qs {Q : F6} (h : fitQ Q) : qs_ Q := by
  obtain ⟨⟨a, b, c, d, e, f⟩, _, _⟩ := h
  exact ⟨by omega, by omega, by omega, by omega, by omega, by omega⟩
theorem fit_D {Q : F6} (h : fitQ Q) : qf_disc Q ≤ 6912 := by
  have h1 := qf_disc_le (fit_pd h)
  obtain ⟨⟨a, b, c, d, e, f⟩, _, _⟩ := h
  have m1 := bd_mul (a := 4 * Q.1) (b := Q.2.1) (A := 48) (B := 12) (by omega) (by omega)
  have m2 := bd_mul (a := 4 * Q.1 * Q.2.1) (b := Q.2.2.1) (A := 576) (B := 12) (by omega) (by omega)
  omega
theorem fit_qB {Q : F6} (h : fitQ Q) : qB Q := by
  have hp := fit_pd h
  obtain ⟨⟨a, b, c, d, e, f⟩, _, _⟩ := h
  exact qB_of hp (by omega) (by omega) (by omega)
/-- what the two sides reckon of a form in range -/
theorem in_4ab {Q : F6} (h : inR Q) : rI (4 * Q.1 * Q.2.1 - Q.2.2.2.2.2 * Q.2.2.2.2.2) ∧ rI (qf_disc Q) := by
  obtain ⟨a, b, c, d, e, f⟩ := h
  have hd := bd_mul (a := 4 * Q.1) (b := Q.2.1) (A := 48) (B := 12) (by omega) (by omega)
  have hff := bd_mul (a := Q.2.2.2.2.2) (b := Q.2.2.2.2.2) (A := 12) (B := 12) (by omega) (by omega)
  have h3 := bd_mul (a := 4 * Q.1 * Q.2.1) (b := Q.2.2.1) (A := 576) (B := 12) (by omega) (by omega)
  have h4 := bd_mul (bd_mul d e) f
  have h5 := bd_mul (bd_mul (a := Q.1) (A := 12) (by omega) d) d
  have h6 := bd_mul (bd_mul (a := Q.2.1) (A := 12) (by omega) e) e
  have h7 := bd_mul (bd_mul (a := Q.2.2.1) (A := 12) (by omega) f) f
  unfold qf_disc
  refine ⟨⟨?_, ?_⟩, ?_, ?_⟩ <;> omega
theorem x4_if0 {six : Nat → Int32} {Q : F6} (h : a6 six Q) (hr : ∀ x ∈ l6 Q, rI x) (k : Option Int32) (n : Nat) : fX4_isForm_L2 k six (n + 1) 0 = if (1 ≤ Q.1 ∧ Q.1 ≤ 12) ∧ (-12 ≤ Q.2.2.2.1 ∧ Q.2.2.2.1 ≤ 12) then fX4_isForm_L2 k six n 1 else some 0 := by
  obtain ⟨h0, h1, h2, h3, h4, h5⟩ := h
  have N0 : (0 : Int32).toNatClampNeg = 0 := by decide
  have N1 : ((3 : Int32) + 0).toNatClampNeg = 3 := by decide
  have r1 : rI Q.1 := hr _ (by simp [l6])
  have r2 : rI Q.2.2.2.1 := hr _ (by simp [l6])
  have o1 : fX6_isOutside (six 0) 1 12 = some (if 1 ≤ Q.1 ∧ Q.1 ≤ 12 then 0 else 1) := by rw [h0, lt_1, lt_12]; exact x6_out r1 (a := 1) (b := 12) ⟨by omega, by omega⟩ ⟨by omega, by omega⟩
  have o2 : fX6_isOutside (six 3) (-12) 12 = some (if -12 ≤ Q.2.2.2.1 ∧ Q.2.2.2.1 ≤ 12 then 0 else 1) := by rw [h3, lt_m12, lt_12]; exact x6_out r2 (a := -12) (b := 12) ⟨by omega, by omega⟩ ⟨by omega, by omega⟩
  rw [fX4_isForm_L2, if_neg (by decide), if_pos (by decide)]
  dsimp only [nm_eq]
  simp only [N0, N1]
  rw [o1, bd1_s]
  by_cases g1 : 1 ≤ Q.1 ∧ Q.1 ≤ 12
  · rw [if_pos g1, if_pos rfl, if_pos (by decide), o2, bd1_s]
    by_cases g2 : -12 ≤ Q.2.2.2.1 ∧ Q.2.2.2.1 ≤ 12
    · rw [if_pos g2, if_pos rfl, if_pos ⟨g1, g2⟩]
      rfl
    · rw [if_neg g2, if_neg (by decide), if_neg (fun t => g2 t.2)]
  · rw [if_neg g1, if_neg (by decide), if_neg (fun t => g1 t.1)]
theorem x4_if1 {six : Nat → Int32} {Q : F6} (h : a6 six Q) (hr : ∀ x ∈ l6 Q, rI x) (k : Option Int32) (n : Nat) : fX4_isForm_L2 k six (n + 1) 1 = if (1 ≤ Q.2.1 ∧ Q.2.1 ≤ 12) ∧ (-12 ≤ Q.2.2.2.2.1 ∧ Q.2.2.2.2.1 ≤ 12) then fX4_isForm_L2 k six n 2 else some 0 := by
  obtain ⟨h0, h1, h2, h3, h4, h5⟩ := h
  have N0 : (1 : Int32).toNatClampNeg = 1 := by decide
  have N1 : ((3 : Int32) + 1).toNatClampNeg = 4 := by decide
  have r1 : rI Q.2.1 := hr _ (by simp [l6])
  have r2 : rI Q.2.2.2.2.1 := hr _ (by simp [l6])
  have o1 : fX6_isOutside (six 1) 1 12 = some (if 1 ≤ Q.2.1 ∧ Q.2.1 ≤ 12 then 0 else 1) := by rw [h1, lt_1, lt_12]; exact x6_out r1 (a := 1) (b := 12) ⟨by omega, by omega⟩ ⟨by omega, by omega⟩
  have o2 : fX6_isOutside (six 4) (-12) 12 = some (if -12 ≤ Q.2.2.2.2.1 ∧ Q.2.2.2.2.1 ≤ 12 then 0 else 1) := by rw [h4, lt_m12, lt_12]; exact x6_out r2 (a := -12) (b := 12) ⟨by omega, by omega⟩ ⟨by omega, by omega⟩
  rw [fX4_isForm_L2, if_neg (by decide), if_pos (by decide)]
  dsimp only [nm_eq]
  simp only [N0, N1]
  rw [o1, bd1_s]
  by_cases g1 : 1 ≤ Q.2.1 ∧ Q.2.1 ≤ 12
  · rw [if_pos g1, if_pos rfl, if_pos (by decide), o2, bd1_s]
    by_cases g2 : -12 ≤ Q.2.2.2.2.1 ∧ Q.2.2.2.2.1 ≤ 12
    · rw [if_pos g2, if_pos rfl, if_pos ⟨g1, g2⟩]
      rfl
    · rw [if_neg g2, if_neg (by decide), if_neg (fun t => g2 t.2)]
  · rw [if_neg g1, if_neg (by decide), if_neg (fun t => g1 t.1)]
theorem x4_if2 {six : Nat → Int32} {Q : F6} (h : a6 six Q) (hr : ∀ x ∈ l6 Q, rI x) (k : Option Int32) (n : Nat) : fX4_isForm_L2 k six (n + 1) 2 = if (1 ≤ Q.2.2.1 ∧ Q.2.2.1 ≤ 12) ∧ (-12 ≤ Q.2.2.2.2.2 ∧ Q.2.2.2.2.2 ≤ 12) then fX4_isForm_L2 k six n 3 else some 0 := by
  obtain ⟨h0, h1, h2, h3, h4, h5⟩ := h
  have N0 : (2 : Int32).toNatClampNeg = 2 := by decide
  have N1 : ((3 : Int32) + 2).toNatClampNeg = 5 := by decide
  have r1 : rI Q.2.2.1 := hr _ (by simp [l6])
  have r2 : rI Q.2.2.2.2.2 := hr _ (by simp [l6])
  have o1 : fX6_isOutside (six 2) 1 12 = some (if 1 ≤ Q.2.2.1 ∧ Q.2.2.1 ≤ 12 then 0 else 1) := by rw [h2, lt_1, lt_12]; exact x6_out r1 (a := 1) (b := 12) ⟨by omega, by omega⟩ ⟨by omega, by omega⟩
  have o2 : fX6_isOutside (six 5) (-12) 12 = some (if -12 ≤ Q.2.2.2.2.2 ∧ Q.2.2.2.2.2 ≤ 12 then 0 else 1) := by rw [h5, lt_m12, lt_12]; exact x6_out r2 (a := -12) (b := 12) ⟨by omega, by omega⟩ ⟨by omega, by omega⟩
  rw [fX4_isForm_L2, if_neg (by decide), if_pos (by decide)]
  dsimp only [nm_eq]
  simp only [N0, N1]
  rw [o1, bd1_s]
  by_cases g1 : 1 ≤ Q.2.2.1 ∧ Q.2.2.1 ≤ 12
  · rw [if_pos g1, if_pos rfl, if_pos (by decide), o2, bd1_s]
    by_cases g2 : -12 ≤ Q.2.2.2.2.2 ∧ Q.2.2.2.2.2 ≤ 12
    · rw [if_pos g2, if_pos rfl, if_pos ⟨g1, g2⟩]
      rfl
    · rw [if_neg g2, if_neg (by decide), if_neg (fun t => g2 t.2)]
  · rw [if_neg g1, if_neg (by decide), if_neg (fun t => g1 t.1)]
theorem x4_isForm {six : Nat → Int32} {Q : F6} (h : a6 six Q) (hr : ∀ x ∈ l6 Q, rI x) {F : Nat} (hF : 100 ≤ F) : (fitQ Q ∧ fX4_isForm F six = some 1) ∨ (¬ fitQ Q ∧ fX4_isForm F six = some 0) := by
  obtain ⟨f, rfl⟩ : ∃ f, F = f + 4 := ⟨F - 4, by omega⟩
  unfold fX4_isForm
  dsimp only [nm_eq]
  rw [x4_if0 h hr]
  by_cases g0 : (1 ≤ Q.1 ∧ Q.1 ≤ 12) ∧ (-12 ≤ Q.2.2.2.1 ∧ Q.2.2.2.1 ≤ 12)
  · rw [if_pos g0, x4_if1 h hr]
    by_cases g1 : (1 ≤ Q.2.1 ∧ Q.2.1 ≤ 12) ∧ (-12 ≤ Q.2.2.2.2.1 ∧ Q.2.2.2.2.1 ≤ 12)
    · rw [if_pos g1, x4_if2 h hr]
      by_cases g2 : (1 ≤ Q.2.2.1 ∧ Q.2.2.1 ≤ 12) ∧ (-12 ≤ Q.2.2.2.2.2 ∧ Q.2.2.2.2.2 ≤ 12)
      · rw [if_pos g2, fX4_isForm_L2, if_pos (by decide)]
        have hR : inR Q := ⟨g0.1, g1.1, g2.1, g0.2, g1.2, g2.2⟩
        obtain ⟨k1, k2⟩ := in_4ab hR
        have e1 : (4 : Int32) * six 0 * six 1 - six 5 * six 5 = Int32.ofInt (4 * Q.1 * Q.2.1 - Q.2.2.2.2.2 * Q.2.2.2.2.2) := by
          rw [h.1, h.2.1, h.2.2.2.2.2, show (4 : Int32) = Int32.ofInt 4 from rfl]
          simp only [← Int32.ofInt_mul, ← Int32.ofInt_sub]
        have z0 : (0 : Int32) = Int32.ofInt 0 := rfl
        rw [e1, x4_disc h, bd1_s]
        by_cases g3 : 0 < 4 * Q.1 * Q.2.1 - Q.2.2.2.2.2 * Q.2.2.2.2.2
        · rw [if_neg (by rw [z0, zi_le k1 ⟨by omega, by omega⟩]; omega)]
          by_cases g4 : 0 < qf_disc Q
          · rw [if_neg (by rw [z0, zi_le k2 ⟨by omega, by omega⟩]; omega), if_pos (Or.inr rfl)]
            exact Or.inl ⟨⟨hR, g3, g4⟩, rfl⟩
          · rw [if_pos (by rw [z0, zi_le k2 ⟨by omega, by omega⟩]; omega), if_pos (Or.inl rfl)]
            exact Or.inr ⟨fun t => g4 t.2.2, rfl⟩
        · rw [if_pos (by rw [z0, zi_le k1 ⟨by omega, by omega⟩]; omega), if_pos (Or.inl rfl)]
          exact Or.inr ⟨fun t => g3 t.2.1, rfl⟩
      · rw [if_neg g2]
        exact Or.inr ⟨fun t => g2 ⟨t.1.2.2.1, t.1.2.2.2.2.2⟩, rfl⟩
    · rw [if_neg g1]
      exact Or.inr ⟨fun t => g1 ⟨t.1.2.1, t.1.2.2.2.2.1⟩, rfl⟩
  · rw [if_neg g0]
    exact Or.inr ⟨fun t => g0 ⟨t.1.1, t.1.2.2.2.1⟩, rfl⟩
theorem l7_fits {Q : F6} (hr : ∀ x ∈ l6 Q, rI x) : (fitQ Q ∧ fX7_fits (Int32.ofInt Q.1) (Int32.ofInt Q.2.1) (Int32.ofInt Q.2.2.1) (Int32.ofInt Q.2.2.2.1) (Int32.ofInt Q.2.2.2.2.1) (Int32.ofInt Q.2.2.2.2.2) = some 1) ∨ (¬ fitQ Q ∧ fX7_fits (Int32.ofInt Q.1) (Int32.ofInt Q.2.1) (Int32.ofInt Q.2.2.1) (Int32.ofInt Q.2.2.2.1) (Int32.ofInt Q.2.2.2.2.1) (Int32.ofInt Q.2.2.2.2.2) = some 0) := by
  have z0 : (0 : Int32) = Int32.ofInt 0 := rfl
  unfold fX7_fits
  dsimp only [nm_eq]
  have o0 : fX7_in (Int32.ofInt Q.1).toInt64 (1) 12 = some (if 1 ≤ Q.1 ∧ Q.1 ≤ 12 then 1 else 0) := by rw [lq_1, lq_12]; exact x7_inI (hr _ (by simp [l6])) (a := 1) (b := 12) ⟨by omega, by omega⟩ ⟨by omega, by omega⟩
  have o1 : fX7_in (Int32.ofInt Q.2.1).toInt64 (1) 12 = some (if 1 ≤ Q.2.1 ∧ Q.2.1 ≤ 12 then 1 else 0) := by rw [lq_1, lq_12]; exact x7_inI (hr _ (by simp [l6])) (a := 1) (b := 12) ⟨by omega, by omega⟩ ⟨by omega, by omega⟩
  have o2 : fX7_in (Int32.ofInt Q.2.2.1).toInt64 (1) 12 = some (if 1 ≤ Q.2.2.1 ∧ Q.2.2.1 ≤ 12 then 1 else 0) := by rw [lq_1, lq_12]; exact x7_inI (hr _ (by simp [l6])) (a := 1) (b := 12) ⟨by omega, by omega⟩ ⟨by omega, by omega⟩
  have o3 : fX7_in (Int32.ofInt Q.2.2.2.1).toInt64 (-12) 12 = some (if -12 ≤ Q.2.2.2.1 ∧ Q.2.2.2.1 ≤ 12 then 1 else 0) := by rw [lq_m12, lq_12]; exact x7_inI (hr _ (by simp [l6])) (a := -12) (b := 12) ⟨by omega, by omega⟩ ⟨by omega, by omega⟩
  have o4 : fX7_in (Int32.ofInt Q.2.2.2.2.1).toInt64 (-12) 12 = some (if -12 ≤ Q.2.2.2.2.1 ∧ Q.2.2.2.2.1 ≤ 12 then 1 else 0) := by rw [lq_m12, lq_12]; exact x7_inI (hr _ (by simp [l6])) (a := -12) (b := 12) ⟨by omega, by omega⟩ ⟨by omega, by omega⟩
  have o5 : fX7_in (Int32.ofInt Q.2.2.2.2.2).toInt64 (-12) 12 = some (if -12 ≤ Q.2.2.2.2.2 ∧ Q.2.2.2.2.2 ≤ 12 then 1 else 0) := by rw [lq_m12, lq_12]; exact x7_inI (hr _ (by simp [l6])) (a := -12) (b := 12) ⟨by omega, by omega⟩ ⟨by omega, by omega⟩
  rw [o0, bd1_s]
  by_cases g0 : 1 ≤ Q.1 ∧ Q.1 ≤ 12
  rotate_left
  · rw [if_neg g0, if_pos rfl, if_pos rfl, if_pos (Or.inl rfl)]
    exact Or.inr ⟨fun t => g0 t.1.1, rfl⟩
  rw [if_pos g0, if_neg (by decide)]
  rw [o1, bd1_s]
  by_cases g1 : 1 ≤ Q.2.1 ∧ Q.2.1 ≤ 12
  rotate_left
  · rw [if_neg g1, if_pos rfl, if_pos rfl, if_pos (Or.inl rfl)]
    exact Or.inr ⟨fun t => g1 t.1.2.1, rfl⟩
  rw [if_pos g1, if_neg (by decide)]
  rw [o2, bd1_s]
  by_cases g2 : 1 ≤ Q.2.2.1 ∧ Q.2.2.1 ≤ 12
  rotate_left
  · rw [if_neg g2, if_pos rfl, if_pos rfl, if_pos (Or.inl rfl)]
    exact Or.inr ⟨fun t => g2 t.1.2.2.1, rfl⟩
  rw [if_pos g2, if_neg (by decide)]
  rw [o3, bd1_s]
  by_cases g3 : -12 ≤ Q.2.2.2.1 ∧ Q.2.2.2.1 ≤ 12
  rotate_left
  · rw [if_neg g3, if_pos rfl, if_pos rfl, if_pos (Or.inl rfl)]
    exact Or.inr ⟨fun t => g3 t.1.2.2.2.1, rfl⟩
  rw [if_pos g3, if_neg (by decide)]
  rw [o4, bd1_s]
  by_cases g4 : -12 ≤ Q.2.2.2.2.1 ∧ Q.2.2.2.2.1 ≤ 12
  rotate_left
  · rw [if_neg g4, if_pos rfl, if_pos rfl, if_pos (Or.inl rfl)]
    exact Or.inr ⟨fun t => g4 t.1.2.2.2.2.1, rfl⟩
  rw [if_pos g4, if_neg (by decide)]
  rw [o5, bd1_s]
  by_cases g5 : -12 ≤ Q.2.2.2.2.2 ∧ Q.2.2.2.2.2 ≤ 12
  rotate_left
  · rw [if_neg g5, if_pos rfl, if_pos rfl, if_pos (Or.inl rfl)]
    exact Or.inr ⟨fun t => g5 t.1.2.2.2.2.2, rfl⟩
  rw [if_pos g5, if_neg (by decide)]
  rw [if_neg (by decide)]
  have hR : inR Q := ⟨g0, g1, g2, g3, g4, g5⟩
  obtain ⟨k1, k2⟩ := in_4ab hR
  have e1 : (4 : Int32) * Int32.ofInt Q.1 * Int32.ofInt Q.2.1 - Int32.ofInt Q.2.2.2.2.2 * Int32.ofInt Q.2.2.2.2.2 = Int32.ofInt (4 * Q.1 * Q.2.1 - Q.2.2.2.2.2 * Q.2.2.2.2.2) := by
    rw [show (4 : Int32) = Int32.ofInt 4 from rfl]
    simp only [← Int32.ofInt_mul, ← Int32.ofInt_sub]
  have e2 : (4 : Int32) * Int32.ofInt Q.1 * Int32.ofInt Q.2.1 * Int32.ofInt Q.2.2.1 + Int32.ofInt Q.2.2.2.1 * Int32.ofInt Q.2.2.2.2.1 * Int32.ofInt Q.2.2.2.2.2 - Int32.ofInt Q.1 * Int32.ofInt Q.2.2.2.1 * Int32.ofInt Q.2.2.2.1 - Int32.ofInt Q.2.1 * Int32.ofInt Q.2.2.2.2.1 * Int32.ofInt Q.2.2.2.2.1 - Int32.ofInt Q.2.2.1 * Int32.ofInt Q.2.2.2.2.2 * Int32.ofInt Q.2.2.2.2.2 = Int32.ofInt (qf_disc Q) := by
    rw [show (4 : Int32) = Int32.ofInt 4 from rfl]
    simp only [← Int32.ofInt_mul, ← Int32.ofInt_add, ← Int32.ofInt_sub]
    rfl
  rw [e1, e2]
  by_cases q1 : 0 < 4 * Q.1 * Q.2.1 - Q.2.2.2.2.2 * Q.2.2.2.2.2
  · rw [if_neg (by rw [z0, zi_le k1 ⟨by omega, by omega⟩]; omega)]
    by_cases q2 : 0 < qf_disc Q
    · rw [if_neg (by rw [z0, zi_le k2 ⟨by omega, by omega⟩]; omega), if_pos (Or.inr rfl)]
      exact Or.inl ⟨⟨hR, q1, q2⟩, rfl⟩
    · rw [if_pos (by rw [z0, zi_le k2 ⟨by omega, by omega⟩]; omega), if_pos (Or.inl rfl)]
      exact Or.inr ⟨fun t => q2 t.2.2, rfl⟩
  · rw [if_pos (by rw [z0, zi_le k1 ⟨by omega, by omega⟩]; omega), if_pos (Or.inl rfl)]
    exact Or.inr ⟨fun t => q1 t.2.1, rfl⟩
