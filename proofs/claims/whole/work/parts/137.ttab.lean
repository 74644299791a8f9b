/-! the reference: tryTable -/
theorem lx_9 : (8 : Int32) = ix 8 ∧ (9 : Int32) = ix 9 := ⟨rfl, rfl⟩
theorem tt_s0 {i j k : Nat} (hi : i + 2 < 5400) (hj : j + 2 < 5400) (hk : k + 2 < 5400) (k109 : (Nat → Int64) → Option ((Nat → Int64) × (Nat → Int64))) (lists base tr : Nat → Int64) (n : Nat) : fX7_tryTable_L3 k109 lists base (ix k) (ix j) (ix i) (n + 1) 0 tr = fX7_tryTable_L3 k109 lists base (ix k) (ix j) (ix i) n 1 (vp_updL tr 0 (lists i * base 0 + lists (i + 1) * base 3 + lists (i + 2) * base 6)) := by
  rw [fX7_tryTable_L3, if_neg (by decide)]
  simp only [nm_eq]
  rw [if_neg (by decide), ix_1, ix_2, ix_add, ix_add, if_pos (ix_ok (by omega) (by decide)), if_pos (by decide), if_pos (ix_ok (by omega) (by decide)), if_pos (by decide), if_pos (ix_ok (by omega) (by decide)), if_pos (by decide), if_pos (by decide), ix_nat (a := i) (by omega), ix_nat (a := i + 1) (by omega), ix_nat (a := i + 2) (by omega)]
  rfl
theorem tt_s1 {i j k : Nat} (hi : i + 2 < 5400) (hj : j + 2 < 5400) (hk : k + 2 < 5400) (k109 : (Nat → Int64) → Option ((Nat → Int64) × (Nat → Int64))) (lists base tr : Nat → Int64) (n : Nat) : fX7_tryTable_L3 k109 lists base (ix k) (ix j) (ix i) (n + 1) 1 tr = fX7_tryTable_L3 k109 lists base (ix k) (ix j) (ix i) n 2 (vp_updL tr 1 (lists i * base 1 + lists (i + 1) * base 4 + lists (i + 2) * base 7)) := by
  rw [fX7_tryTable_L3, if_neg (by decide)]
  simp only [nm_eq]
  rw [if_neg (by decide), ix_1, ix_2, ix_add, ix_add, if_pos (ix_ok (by omega) (by decide)), if_pos (by decide), if_pos (ix_ok (by omega) (by decide)), if_pos (by decide), if_pos (ix_ok (by omega) (by decide)), if_pos (by decide), if_pos (by decide), ix_nat (a := i) (by omega), ix_nat (a := i + 1) (by omega), ix_nat (a := i + 2) (by omega)]
  rfl
theorem tt_s2 {i j k : Nat} (hi : i + 2 < 5400) (hj : j + 2 < 5400) (hk : k + 2 < 5400) (k109 : (Nat → Int64) → Option ((Nat → Int64) × (Nat → Int64))) (lists base tr : Nat → Int64) (n : Nat) : fX7_tryTable_L3 k109 lists base (ix k) (ix j) (ix i) (n + 1) 2 tr = fX7_tryTable_L3 k109 lists base (ix k) (ix j) (ix i) n 3 (vp_updL tr 2 (lists i * base 2 + lists (i + 1) * base 5 + lists (i + 2) * base 8)) := by
  rw [fX7_tryTable_L3, if_neg (by decide)]
  simp only [nm_eq]
  rw [if_neg (by decide), ix_1, ix_2, ix_add, ix_add, if_pos (ix_ok (by omega) (by decide)), if_pos (by decide), if_pos (ix_ok (by omega) (by decide)), if_pos (by decide), if_pos (ix_ok (by omega) (by decide)), if_pos (by decide), if_pos (by decide), ix_nat (a := i) (by omega), ix_nat (a := i + 1) (by omega), ix_nat (a := i + 2) (by omega)]
  rfl
theorem tt_s3 {i j k : Nat} (hi : i + 2 < 5400) (hj : j + 2 < 5400) (hk : k + 2 < 5400) (k109 : (Nat → Int64) → Option ((Nat → Int64) × (Nat → Int64))) (lists base tr : Nat → Int64) (n : Nat) : fX7_tryTable_L3 k109 lists base (ix k) (ix j) (ix i) (n + 1) 3 tr = fX7_tryTable_L3 k109 lists base (ix k) (ix j) (ix i) n 4 (vp_updL tr 3 (lists j * base 0 + lists (j + 1) * base 3 + lists (j + 2) * base 6)) := by
  rw [fX7_tryTable_L3, if_neg (by decide)]
  simp only [nm_eq]
  rw [if_pos (by decide), if_neg (by decide), ix_1, ix_2, ix_add, ix_add, if_pos (ix_ok (by omega) (by decide)), if_pos (by decide), if_pos (ix_ok (by omega) (by decide)), if_pos (by decide), if_pos (ix_ok (by omega) (by decide)), if_pos (by decide), if_pos (by decide), ix_nat (a := j) (by omega), ix_nat (a := j + 1) (by omega), ix_nat (a := j + 2) (by omega)]
  rfl
theorem tt_s4 {i j k : Nat} (hi : i + 2 < 5400) (hj : j + 2 < 5400) (hk : k + 2 < 5400) (k109 : (Nat → Int64) → Option ((Nat → Int64) × (Nat → Int64))) (lists base tr : Nat → Int64) (n : Nat) : fX7_tryTable_L3 k109 lists base (ix k) (ix j) (ix i) (n + 1) 4 tr = fX7_tryTable_L3 k109 lists base (ix k) (ix j) (ix i) n 5 (vp_updL tr 4 (lists j * base 1 + lists (j + 1) * base 4 + lists (j + 2) * base 7)) := by
  rw [fX7_tryTable_L3, if_neg (by decide)]
  simp only [nm_eq]
  rw [if_pos (by decide), if_neg (by decide), ix_1, ix_2, ix_add, ix_add, if_pos (ix_ok (by omega) (by decide)), if_pos (by decide), if_pos (ix_ok (by omega) (by decide)), if_pos (by decide), if_pos (ix_ok (by omega) (by decide)), if_pos (by decide), if_pos (by decide), ix_nat (a := j) (by omega), ix_nat (a := j + 1) (by omega), ix_nat (a := j + 2) (by omega)]
  rfl
theorem tt_s5 {i j k : Nat} (hi : i + 2 < 5400) (hj : j + 2 < 5400) (hk : k + 2 < 5400) (k109 : (Nat → Int64) → Option ((Nat → Int64) × (Nat → Int64))) (lists base tr : Nat → Int64) (n : Nat) : fX7_tryTable_L3 k109 lists base (ix k) (ix j) (ix i) (n + 1) 5 tr = fX7_tryTable_L3 k109 lists base (ix k) (ix j) (ix i) n 6 (vp_updL tr 5 (lists j * base 2 + lists (j + 1) * base 5 + lists (j + 2) * base 8)) := by
  rw [fX7_tryTable_L3, if_neg (by decide)]
  simp only [nm_eq]
  rw [if_pos (by decide), if_neg (by decide), ix_1, ix_2, ix_add, ix_add, if_pos (ix_ok (by omega) (by decide)), if_pos (by decide), if_pos (ix_ok (by omega) (by decide)), if_pos (by decide), if_pos (ix_ok (by omega) (by decide)), if_pos (by decide), if_pos (by decide), ix_nat (a := j) (by omega), ix_nat (a := j + 1) (by omega), ix_nat (a := j + 2) (by omega)]
  rfl
theorem tt_s6 {i j k : Nat} (hi : i + 2 < 5400) (hj : j + 2 < 5400) (hk : k + 2 < 5400) (k109 : (Nat → Int64) → Option ((Nat → Int64) × (Nat → Int64))) (lists base tr : Nat → Int64) (n : Nat) : fX7_tryTable_L3 k109 lists base (ix k) (ix j) (ix i) (n + 1) 6 tr = fX7_tryTable_L3 k109 lists base (ix k) (ix j) (ix i) n 7 (vp_updL tr 6 (lists k * base 0 + lists (k + 1) * base 3 + lists (k + 2) * base 6)) := by
  rw [fX7_tryTable_L3, if_neg (by decide)]
  simp only [nm_eq]
  rw [if_pos (by decide), if_pos (by decide), ix_1, ix_2, ix_add, ix_add, if_pos (ix_ok (by omega) (by decide)), if_pos (by decide), if_pos (ix_ok (by omega) (by decide)), if_pos (by decide), if_pos (ix_ok (by omega) (by decide)), if_pos (by decide), if_pos (by decide), ix_nat (a := k) (by omega), ix_nat (a := k + 1) (by omega), ix_nat (a := k + 2) (by omega)]
  rfl
theorem tt_s7 {i j k : Nat} (hi : i + 2 < 5400) (hj : j + 2 < 5400) (hk : k + 2 < 5400) (k109 : (Nat → Int64) → Option ((Nat → Int64) × (Nat → Int64))) (lists base tr : Nat → Int64) (n : Nat) : fX7_tryTable_L3 k109 lists base (ix k) (ix j) (ix i) (n + 1) 7 tr = fX7_tryTable_L3 k109 lists base (ix k) (ix j) (ix i) n 8 (vp_updL tr 7 (lists k * base 1 + lists (k + 1) * base 4 + lists (k + 2) * base 7)) := by
  rw [fX7_tryTable_L3, if_neg (by decide)]
  simp only [nm_eq]
  rw [if_pos (by decide), if_pos (by decide), ix_1, ix_2, ix_add, ix_add, if_pos (ix_ok (by omega) (by decide)), if_pos (by decide), if_pos (ix_ok (by omega) (by decide)), if_pos (by decide), if_pos (ix_ok (by omega) (by decide)), if_pos (by decide), if_pos (by decide), ix_nat (a := k) (by omega), ix_nat (a := k + 1) (by omega), ix_nat (a := k + 2) (by omega)]
  rfl
theorem tt_s8 {i j k : Nat} (hi : i + 2 < 5400) (hj : j + 2 < 5400) (hk : k + 2 < 5400) (k109 : (Nat → Int64) → Option ((Nat → Int64) × (Nat → Int64))) (lists base tr : Nat → Int64) (n : Nat) : fX7_tryTable_L3 k109 lists base (ix k) (ix j) (ix i) (n + 1) 8 tr = fX7_tryTable_L3 k109 lists base (ix k) (ix j) (ix i) n 9 (vp_updL tr 8 (lists k * base 2 + lists (k + 1) * base 5 + lists (k + 2) * base 8)) := by
  rw [fX7_tryTable_L3, if_neg (by decide)]
  simp only [nm_eq]
  rw [if_pos (by decide), if_pos (by decide), ix_1, ix_2, ix_add, ix_add, if_pos (ix_ok (by omega) (by decide)), if_pos (by decide), if_pos (ix_ok (by omega) (by decide)), if_pos (by decide), if_pos (ix_ok (by omega) (by decide)), if_pos (by decide), if_pos (by decide), ix_nat (a := k) (by omega), ix_nat (a := k + 1) (by omega), ix_nat (a := k + 2) (by omega)]
  rfl
theorem tt_L3 {lists base : Nat → Int64} {u v w : V3} {B : T9} {i j k : Nat} (hi : i + 2 < 5400) (hj : j + 2 < 5400) (hk : k + 2 < 5400) (hu : avl lists i u) (hv : avl lists j v) (hw : avl lists k w) (hB : al9 base B) (k109 : (Nat → Int64) → Option ((Nat → Int64) × (Nat → Int64))) (tr : Nat → Int64) (n : Nat) : ∃ tr', fX7_tryTable_L3 k109 lists base (ix k) (ix j) (ix i) (n + 10) 0 tr = k109 tr' ∧ al9 tr' (qf_mul (u, v, w) B) := by
  rw [tt_s0 hi hj hk, tt_s1 hi hj hk, tt_s2 hi hj hk, tt_s3 hi hj hk, tt_s4 hi hj hk, tt_s5 hi hj hk, tt_s6 hi hj hk, tt_s7 hi hj hk, tt_s8 hi hj hk, fX7_tryTable_L3, if_pos (by decide)]
  refine ⟨_, rfl, ?_⟩
  · obtain ⟨u0, u1, u2⟩ := hu
    obtain ⟨v0, v1, v2⟩ := hv
    obtain ⟨w0, w1, w2⟩ := hw
    obtain ⟨h0, h1, h2, h3, h4, h5, h6, h7, h8⟩ := hB
    rw [u0, u1, u2, v0, v1, v2, w0, w1, w2, h0, h1, h2, h3, h4, h5, h6, h7, h8]
    refine ⟨?_, ?_, ?_, ?_, ?_, ?_, ?_, ?_, ?_⟩ <;> simp [vp_updL, qf_mul, qf_lin]
theorem tt_L172 {tr : Nat → Int64} {T : T9} (h : al9 tr T) (k199 : (Nat → Int64) → Option ((Nat → Int64) × (Nat → Int64))) (tb : Nat → Int64) (n : Nat) : ∃ tb', fX7_tryTable_L172 k199 tr (n + 10) 0 tb = k199 tb' ∧ al9 tb' T := by
  refine ⟨_, rfl, ?_⟩
  obtain ⟨h0, h1, h2, h3, h4, h5, h6, h7, h8⟩ := h
  refine ⟨?_, ?_, ?_, ?_, ?_, ?_, ?_, ?_, ?_⟩ <;> simp [vp_updL, *]
theorem tt_c0 (k143 : Int32 → Option ((Nat → Int64) × (Nat → Int64))) (tr tb : Nat → Int64) (n : Nat) : fX7_tryTable_L112 k143 tr tb (n + 1) 0 = if tr 0 = tb 0 then fX7_tryTable_L112 k143 tr tb n 1 else k143 0 := rfl
theorem tt_c1 (k143 : Int32 → Option ((Nat → Int64) × (Nat → Int64))) (tr tb : Nat → Int64) (n : Nat) : fX7_tryTable_L112 k143 tr tb (n + 1) 1 = if tr 1 = tb 1 then fX7_tryTable_L112 k143 tr tb n 2 else k143 1 := rfl
theorem tt_c2 (k143 : Int32 → Option ((Nat → Int64) × (Nat → Int64))) (tr tb : Nat → Int64) (n : Nat) : fX7_tryTable_L112 k143 tr tb (n + 1) 2 = if tr 2 = tb 2 then fX7_tryTable_L112 k143 tr tb n 3 else k143 2 := rfl
theorem tt_c3 (k143 : Int32 → Option ((Nat → Int64) × (Nat → Int64))) (tr tb : Nat → Int64) (n : Nat) : fX7_tryTable_L112 k143 tr tb (n + 1) 3 = if tr 3 = tb 3 then fX7_tryTable_L112 k143 tr tb n 4 else k143 3 := rfl
theorem tt_c4 (k143 : Int32 → Option ((Nat → Int64) × (Nat → Int64))) (tr tb : Nat → Int64) (n : Nat) : fX7_tryTable_L112 k143 tr tb (n + 1) 4 = if tr 4 = tb 4 then fX7_tryTable_L112 k143 tr tb n 5 else k143 4 := rfl
theorem tt_c5 (k143 : Int32 → Option ((Nat → Int64) × (Nat → Int64))) (tr tb : Nat → Int64) (n : Nat) : fX7_tryTable_L112 k143 tr tb (n + 1) 5 = if tr 5 = tb 5 then fX7_tryTable_L112 k143 tr tb n 6 else k143 5 := rfl
theorem tt_c6 (k143 : Int32 → Option ((Nat → Int64) × (Nat → Int64))) (tr tb : Nat → Int64) (n : Nat) : fX7_tryTable_L112 k143 tr tb (n + 1) 6 = if tr 6 = tb 6 then fX7_tryTable_L112 k143 tr tb n 7 else k143 6 := rfl
theorem tt_c7 (k143 : Int32 → Option ((Nat → Int64) × (Nat → Int64))) (tr tb : Nat → Int64) (n : Nat) : fX7_tryTable_L112 k143 tr tb (n + 1) 7 = if tr 7 = tb 7 then fX7_tryTable_L112 k143 tr tb n 8 else k143 7 := rfl
theorem tt_c8 (k143 : Int32 → Option ((Nat → Int64) × (Nat → Int64))) (tr tb : Nat → Int64) (n : Nat) : fX7_tryTable_L112 k143 tr tb (n + 1) 8 = k143 8 := rfl
theorem tt_any (k143 : Int32 → Option ((Nat → Int64) × (Nat → Int64))) (tr tb : Nat → Int64) (n : Nat) : ∃ m, m ≤ 8 ∧ fX7_tryTable_L112 k143 tr tb (n + 10) 0 = k143 (ix m) := by
  rw [tt_c0, tt_c1, tt_c2, tt_c3, tt_c4, tt_c5, tt_c6, tt_c7, tt_c8]
  by_cases g0 : tr 0 = tb 0
  · rw [if_pos g0]
    by_cases g1 : tr 1 = tb 1
    · rw [if_pos g1]
      by_cases g2 : tr 2 = tb 2
      · rw [if_pos g2]
        by_cases g3 : tr 3 = tb 3
        · rw [if_pos g3]
          by_cases g4 : tr 4 = tb 4
          · rw [if_pos g4]
            by_cases g5 : tr 5 = tb 5
            · rw [if_pos g5]
              by_cases g6 : tr 6 = tb 6
              · rw [if_pos g6]
                by_cases g7 : tr 7 = tb 7
                · rw [if_pos g7]
                  exact ⟨8, by decide, rfl⟩
                · rw [if_neg g7]; exact ⟨7, by decide, rfl⟩
              · rw [if_neg g6]; exact ⟨6, by decide, rfl⟩
            · rw [if_neg g5]; exact ⟨5, by decide, rfl⟩
          · rw [if_neg g4]; exact ⟨4, by decide, rfl⟩
        · rw [if_neg g3]; exact ⟨3, by decide, rfl⟩
      · rw [if_neg g2]; exact ⟨2, by decide, rfl⟩
    · rw [if_neg g1]; exact ⟨1, by decide, rfl⟩
  · rw [if_neg g0]; exact ⟨0, by decide, rfl⟩
theorem tt_cmp {tr tb : Nat → Int64} {M T : T9} (hM : al9 tr M) (hT : al9 tb T) (rM : ∀ x ∈ l9 M, rL x) (rT : ∀ x ∈ l9 T, rL x) (k143 : Int32 → Option ((Nat → Int64) × (Nat → Int64))) (n : Nat) : ∃ m, m ≤ 8 ∧ fX7_tryTable_L112 k143 tr tb (n + 10) 0 = k143 (ix m) ∧ (tb m ≤ tr m ↔ lx_lt (l9 M) (l9 T) = false) := by
  obtain ⟨h0, h1, h2, h3, h4, h5, h6, h7, h8⟩ := hM
  obtain ⟨t0, t1, t2, t3, t4, t5, t6, t7, t8⟩ := hT
  simp only [l9, List.mem_cons, List.not_mem_nil, or_false, forall_eq_or_imp, forall_eq] at rM rT
  obtain ⟨m0, m1, m2, m3, m4, m5, m6, m7, m8⟩ := rM
  obtain ⟨s0, s1, s2, s3, s4, s5, s6, s7, s8⟩ := rT
  have e0 : tr 0 = tb 0 ↔ M.1.1 = T.1.1 := by rw [h0, t0, zl_eq m0 s0]
  have d0 : tb 0 ≤ tr 0 ↔ T.1.1 ≤ M.1.1 := by rw [h0, t0, zl_le s0 m0]
  have e1 : tr 1 = tb 1 ↔ M.1.2.1 = T.1.2.1 := by rw [h1, t1, zl_eq m1 s1]
  have d1 : tb 1 ≤ tr 1 ↔ T.1.2.1 ≤ M.1.2.1 := by rw [h1, t1, zl_le s1 m1]
  have e2 : tr 2 = tb 2 ↔ M.1.2.2 = T.1.2.2 := by rw [h2, t2, zl_eq m2 s2]
  have d2 : tb 2 ≤ tr 2 ↔ T.1.2.2 ≤ M.1.2.2 := by rw [h2, t2, zl_le s2 m2]
  have e3 : tr 3 = tb 3 ↔ M.2.1.1 = T.2.1.1 := by rw [h3, t3, zl_eq m3 s3]
  have d3 : tb 3 ≤ tr 3 ↔ T.2.1.1 ≤ M.2.1.1 := by rw [h3, t3, zl_le s3 m3]
  have e4 : tr 4 = tb 4 ↔ M.2.1.2.1 = T.2.1.2.1 := by rw [h4, t4, zl_eq m4 s4]
  have d4 : tb 4 ≤ tr 4 ↔ T.2.1.2.1 ≤ M.2.1.2.1 := by rw [h4, t4, zl_le s4 m4]
  have e5 : tr 5 = tb 5 ↔ M.2.1.2.2 = T.2.1.2.2 := by rw [h5, t5, zl_eq m5 s5]
  have d5 : tb 5 ≤ tr 5 ↔ T.2.1.2.2 ≤ M.2.1.2.2 := by rw [h5, t5, zl_le s5 m5]
  have e6 : tr 6 = tb 6 ↔ M.2.2.1 = T.2.2.1 := by rw [h6, t6, zl_eq m6 s6]
  have d6 : tb 6 ≤ tr 6 ↔ T.2.2.1 ≤ M.2.2.1 := by rw [h6, t6, zl_le s6 m6]
  have e7 : tr 7 = tb 7 ↔ M.2.2.2.1 = T.2.2.2.1 := by rw [h7, t7, zl_eq m7 s7]
  have d7 : tb 7 ≤ tr 7 ↔ T.2.2.2.1 ≤ M.2.2.2.1 := by rw [h7, t7, zl_le s7 m7]
  have e8 : tr 8 = tb 8 ↔ M.2.2.2.2 = T.2.2.2.2 := by rw [h8, t8, zl_eq m8 s8]
  have d8 : tb 8 ≤ tr 8 ↔ T.2.2.2.2 ≤ M.2.2.2.2 := by rw [h8, t8, zl_le s8 m8]
  rw [tt_c0, tt_c1, tt_c2, tt_c3, tt_c4, tt_c5, tt_c6, tt_c7, tt_c8]
  unfold l9
  by_cases g0 : tr 0 = tb 0
  · rw [if_pos g0]
    by_cases g1 : tr 1 = tb 1
    · rw [if_pos g1]
      by_cases g2 : tr 2 = tb 2
      · rw [if_pos g2]
        by_cases g3 : tr 3 = tb 3
        · rw [if_pos g3]
          by_cases g4 : tr 4 = tb 4
          · rw [if_pos g4]
            by_cases g5 : tr 5 = tb 5
            · rw [if_pos g5]
              by_cases g6 : tr 6 = tb 6
              · rw [if_pos g6]
                by_cases g7 : tr 7 = tb 7
                · rw [if_pos g7]
                  refine ⟨8, by decide, rfl, ?_⟩
                  rw [d8]
                  simp only [lx_lt, Bool.or_eq_false_iff, Bool.and_eq_false_iff, decide_eq_false_iff_not, or_true, and_true]
                  have y0 := e0.mp g0
                  have y1 := e1.mp g1
                  have y2 := e2.mp g2
                  have y3 := e3.mp g3
                  have y4 := e4.mp g4
                  have y5 := e5.mp g5
                  have y6 := e6.mp g6
                  have y7 := e7.mp g7
                  omega
                · rw [if_neg g7]
                  refine ⟨7, by decide, rfl, ?_⟩
                  rw [d7]
                  simp only [lx_lt, Bool.or_eq_false_iff, Bool.and_eq_false_iff, decide_eq_false_iff_not, or_true, and_true]
                  have y0 := e0.mp g0
                  have y1 := e1.mp g1
                  have y2 := e2.mp g2
                  have y3 := e3.mp g3
                  have y4 := e4.mp g4
                  have y5 := e5.mp g5
                  have y6 := e6.mp g6
                  have n7 : ¬ M.2.2.2.1 = T.2.2.2.1 := fun h => g7 (e7.mpr h)
                  omega
              · rw [if_neg g6]
                refine ⟨6, by decide, rfl, ?_⟩
                rw [d6]
                simp only [lx_lt, Bool.or_eq_false_iff, Bool.and_eq_false_iff, decide_eq_false_iff_not, or_true, and_true]
                have y0 := e0.mp g0
                have y1 := e1.mp g1
                have y2 := e2.mp g2
                have y3 := e3.mp g3
                have y4 := e4.mp g4
                have y5 := e5.mp g5
                have n6 : ¬ M.2.2.1 = T.2.2.1 := fun h => g6 (e6.mpr h)
                omega
            · rw [if_neg g5]
              refine ⟨5, by decide, rfl, ?_⟩
              rw [d5]
              simp only [lx_lt, Bool.or_eq_false_iff, Bool.and_eq_false_iff, decide_eq_false_iff_not, or_true, and_true]
              have y0 := e0.mp g0
              have y1 := e1.mp g1
              have y2 := e2.mp g2
              have y3 := e3.mp g3
              have y4 := e4.mp g4
              have n5 : ¬ M.2.1.2.2 = T.2.1.2.2 := fun h => g5 (e5.mpr h)
              omega
          · rw [if_neg g4]
            refine ⟨4, by decide, rfl, ?_⟩
            rw [d4]
            simp only [lx_lt, Bool.or_eq_false_iff, Bool.and_eq_false_iff, decide_eq_false_iff_not, or_true, and_true]
            have y0 := e0.mp g0
            have y1 := e1.mp g1
            have y2 := e2.mp g2
            have y3 := e3.mp g3
            have n4 : ¬ M.2.1.2.1 = T.2.1.2.1 := fun h => g4 (e4.mpr h)
            omega
        · rw [if_neg g3]
          refine ⟨3, by decide, rfl, ?_⟩
          rw [d3]
          simp only [lx_lt, Bool.or_eq_false_iff, Bool.and_eq_false_iff, decide_eq_false_iff_not, or_true, and_true]
          have y0 := e0.mp g0
          have y1 := e1.mp g1
          have y2 := e2.mp g2
          have n3 : ¬ M.2.1.1 = T.2.1.1 := fun h => g3 (e3.mpr h)
          omega
      · rw [if_neg g2]
        refine ⟨2, by decide, rfl, ?_⟩
        rw [d2]
        simp only [lx_lt, Bool.or_eq_false_iff, Bool.and_eq_false_iff, decide_eq_false_iff_not, or_true, and_true]
        have y0 := e0.mp g0
        have y1 := e1.mp g1
        have n2 : ¬ M.1.2.2 = T.1.2.2 := fun h => g2 (e2.mpr h)
        omega
    · rw [if_neg g1]
      refine ⟨1, by decide, rfl, ?_⟩
      rw [d1]
      simp only [lx_lt, Bool.or_eq_false_iff, Bool.and_eq_false_iff, decide_eq_false_iff_not, or_true, and_true]
      have y0 := e0.mp g0
      have n1 : ¬ M.1.2.1 = T.1.2.1 := fun h => g1 (e1.mpr h)
      omega
  · rw [if_neg g0]
    refine ⟨0, by decide, rfl, ?_⟩
    rw [d0]
    simp only [lx_lt, Bool.or_eq_false_iff, Bool.and_eq_false_iff, decide_eq_false_iff_not, or_true, and_true]
    have n0 : ¬ M.1.1 = T.1.1 := fun h => g0 (e0.mpr h)
    omega
theorem tt_0 (fu : Nat) (turns : Int32) (base table lists tried : Nat → Int64) (i j k : Int32) : fX7_tryTable fu turns base table lists tried i j k = fX7_tryTable_L3 (fun tr => fX7_tryTable_L112 (fun m => if turns = (1 : Int32) then (fX7_tryTable_L172 (fun tb => some (tb, tr)) tr fu 0 table) else (if okI m 9 then if okI m 9 then if (table m.toNatClampNeg) ≤ (tr m.toNatClampNeg) then some (table, tr) else (fX7_tryTable_L172 (fun tb => some (tb, tr)) tr fu 0 table) else none else none)) tr table fu 0) lists base k j i fu 0 tried := rfl
theorem tt_one {lists base : Nat → Int64} {u v w : V3} {B : T9} {i j k : Nat} (hi : i + 2 < 5400) (hj : j + 2 < 5400) (hk : k + 2 < 5400) (hu : avl lists i u) (hv : avl lists j v) (hw : avl lists k w) (hB : al9 base B) (table tried : Nat → Int64) {F : Nat} (hF : 100 ≤ F) : ∃ tb tr, fX7_tryTable F 1 base table lists tried (ix i) (ix j) (ix k) = some (tb, tr) ∧ al9 tb (qf_mul (u, v, w) B) := by
  obtain ⟨f, rfl⟩ : ∃ f, F = f + 10 := ⟨F - 10, by omega⟩
  rw [tt_0]
  obtain ⟨tr, e1, h1⟩ := tt_L3 hi hj hk hu hv hw hB (fun tr => fX7_tryTable_L112 (fun m => if (1 : Int32) = (1 : Int32) then (fX7_tryTable_L172 (fun tb => some (tb, tr)) tr (f + 10) 0 table) else (if okI m 9 then if okI m 9 then if (table m.toNatClampNeg) ≤ (tr m.toNatClampNeg) then some (table, tr) else (fX7_tryTable_L172 (fun tb => some (tb, tr)) tr (f + 10) 0 table) else none else none)) tr table (f + 10) 0) tried f
  rw [e1]
  obtain ⟨m, hm, e2⟩ := tt_any (fun m => if (1 : Int32) = (1 : Int32) then (fX7_tryTable_L172 (fun tb => some (tb, tr)) tr (f + 10) 0 table) else (if okI m 9 then if okI m 9 then if (table m.toNatClampNeg) ≤ (tr m.toNatClampNeg) then some (table, tr) else (fX7_tryTable_L172 (fun tb => some (tb, tr)) tr (f + 10) 0 table) else none else none)) tr table f
  rw [e2, if_pos rfl]
  obtain ⟨tb, e3, h3⟩ := tt_L172 h1 (fun tb => some (tb, tr)) table f
  rw [e3]
  exact ⟨tb, tr, rfl, h3⟩
theorem tt_more {lists base : Nat → Int64} {u v w : V3} {B T : T9} {i j k : Nat} (hi : i + 2 < 5400) (hj : j + 2 < 5400) (hk : k + 2 < 5400) (hu : avl lists i u) (hv : avl lists j v) (hw : avl lists k w) (hB : al9 base B) {table : Nat → Int64} (hT : al9 table T) (rM : ∀ x ∈ l9 (qf_mul (u, v, w) B), rL x) (rT : ∀ x ∈ l9 T, rL x) (tried : Nat → Int64) {turns : Int32} (ht : ¬ turns = 1) {F : Nat} (hF : 100 ≤ F) : ∃ tb tr, fX7_tryTable F turns base table lists tried (ix i) (ix j) (ix k) = some (tb, tr) ∧ al9 tb (if lx_lt (l9 (qf_mul (u, v, w) B)) (l9 T) = true then qf_mul (u, v, w) B else T) := by
  obtain ⟨f, rfl⟩ : ∃ f, F = f + 10 := ⟨F - 10, by omega⟩
  rw [tt_0]
  obtain ⟨tr, e1, h1⟩ := tt_L3 hi hj hk hu hv hw hB (fun tr => fX7_tryTable_L112 (fun m => if turns = (1 : Int32) then (fX7_tryTable_L172 (fun tb => some (tb, tr)) tr (f + 10) 0 table) else (if okI m 9 then if okI m 9 then if (table m.toNatClampNeg) ≤ (tr m.toNatClampNeg) then some (table, tr) else (fX7_tryTable_L172 (fun tb => some (tb, tr)) tr (f + 10) 0 table) else none else none)) tr table (f + 10) 0) tried f
  rw [e1]
  obtain ⟨m, hm, e2, h2⟩ := tt_cmp h1 hT rM rT (fun m => if turns = (1 : Int32) then (fX7_tryTable_L172 (fun tb => some (tb, tr)) tr (f + 10) 0 table) else (if okI m 9 then if okI m 9 then if (table m.toNatClampNeg) ≤ (tr m.toNatClampNeg) then some (table, tr) else (fX7_tryTable_L172 (fun tb => some (tb, tr)) tr (f + 10) 0 table) else none else none)) f
  rw [e2, if_neg ht, if_pos (ix_ok (by omega) (by decide)), if_pos (ix_ok (by omega) (by decide))]
  have e5 : (table (ix m).toNatClampNeg ≤ tr (ix m).toNatClampNeg) ↔ lx_lt (l9 (qf_mul (u, v, w) B)) (l9 T) = false := by rw [ix_nat (by omega)]; exact h2
  by_cases g : lx_lt (l9 (qf_mul (u, v, w) B)) (l9 T) = true
  · rw [if_pos g, if_neg (fun h => by rw [e5.mp h] at g; cases g)]
    obtain ⟨tb, e3, h3⟩ := tt_L172 h1 (fun tb => some (tb, tr)) table f
    rw [e3]
    exact ⟨tb, tr, rfl, h3⟩
  · rw [if_neg g, if_pos (e5.mpr (by simpa using g))]
    exact ⟨table, tr, rfl, hT⟩
