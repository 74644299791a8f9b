/-! the call turns: the reference -/
theorem c10 : ((1 : Int32) = 0) = False := eq_false (by decide)
theorem t7_out {hc : Nat} (h1 : hc ≤ 12) {z y : Int} (hz : rI z) (hy : rI y) (g : 0 ≤ z ∧ z < hc) (gy : 0 ≤ y ∧ y < hc) (num : Nat → Int32) (q : Nat → Int64) {x0 x1 x2 x3 x4 x5 x6 x7 x8 : Int} (r0 : rI x0) (r1 : rI x1) (r2 : rI x2) (r3 : rI x3) (r4 : rI x4) (r5 : rI x5) (r6 : rI x6) (r7 : rI x7) (r8 : rI x8) (fu : Nat) (ho : ¬ ((-20 ≤ x0 ∧ x0 ≤ 20) ∧ (-20 ≤ x1 ∧ x1 ≤ 20) ∧ (-20 ≤ x2 ∧ x2 ≤ 20) ∧ (-20 ≤ x3 ∧ x3 ≤ 20) ∧ (-20 ≤ x4 ∧ x4 ≤ 20) ∧ (-20 ≤ x5 ∧ x5 ≤ 20) ∧ (-20 ≤ x6 ∧ x6 ≤ 20) ∧ (-20 ≤ x7 ∧ x7 ≤ 20) ∧ (-20 ≤ x8 ∧ x8 ≤ 20))) : fX7_turns fu (ix hc) num q (Int32.ofInt z) (Int32.ofInt y) (Int32.ofInt x0) (Int32.ofInt x1) (Int32.ofInt x2) (Int32.ofInt x3) (Int32.ofInt x4) (Int32.ofInt x5) (Int32.ofInt x6) (Int32.ofInt x7) (Int32.ofInt x8) = some (-100002, q) := by
  unfold fX7_turns
  rw [x7_isForm h1 hz, bd1_s]
  rw [if_pos g, x7_isForm h1 hy, if_pos gy]
  by_cases g0 : -20 ≤ x0 ∧ x0 ≤ 20
  rotate_left
  · simp only [nm_eq, i20n r0 g0, bd1_s, c10, ↓reduceIte]
  by_cases g1 : -20 ≤ x1 ∧ x1 ≤ 20
  rotate_left
  · simp only [nm_eq, i20p r0 g0, i20n r1 g1, bd1_s, c10, ↓reduceIte]
  by_cases g2 : -20 ≤ x2 ∧ x2 ≤ 20
  rotate_left
  · simp only [nm_eq, i20p r0 g0, i20p r1 g1, i20n r2 g2, bd1_s, c10, ↓reduceIte]
  by_cases g3 : -20 ≤ x3 ∧ x3 ≤ 20
  rotate_left
  · simp only [nm_eq, i20p r0 g0, i20p r1 g1, i20p r2 g2, i20n r3 g3, bd1_s, c10, ↓reduceIte]
  by_cases g4 : -20 ≤ x4 ∧ x4 ≤ 20
  rotate_left
  · simp only [nm_eq, i20p r0 g0, i20p r1 g1, i20p r2 g2, i20p r3 g3, i20n r4 g4, bd1_s, c10, ↓reduceIte]
  by_cases g5 : -20 ≤ x5 ∧ x5 ≤ 20
  rotate_left
  · simp only [nm_eq, i20p r0 g0, i20p r1 g1, i20p r2 g2, i20p r3 g3, i20p r4 g4, i20n r5 g5, bd1_s, c10, ↓reduceIte]
  by_cases g6 : -20 ≤ x6 ∧ x6 ≤ 20
  rotate_left
  · simp only [nm_eq, i20p r0 g0, i20p r1 g1, i20p r2 g2, i20p r3 g3, i20p r4 g4, i20p r5 g5, i20n r6 g6, bd1_s, c10, ↓reduceIte]
  by_cases g7 : -20 ≤ x7 ∧ x7 ≤ 20
  rotate_left
  · simp only [nm_eq, i20p r0 g0, i20p r1 g1, i20p r2 g2, i20p r3 g3, i20p r4 g4, i20p r5 g5, i20p r6 g6, i20n r7 g7, bd1_s, c10, ↓reduceIte]
  by_cases g8 : -20 ≤ x8 ∧ x8 ≤ 20
  rotate_left
  · simp only [nm_eq, i20p r0 g0, i20p r1 g1, i20p r2 g2, i20p r3 g3, i20p r4 g4, i20p r5 g5, i20p r6 g6, i20p r7 g7, i20n r8 g8, bd1_s, c10, ↓reduceIte]
  exact absurd ⟨g0, g1, g2, g3, g4, g5, g6, g7, g8⟩ ho
theorem t7_det {x0 x1 x2 x3 x4 x5 x6 x7 x8 : Int} (hr : (-20 ≤ x0 ∧ x0 ≤ 20) ∧ (-20 ≤ x1 ∧ x1 ≤ 20) ∧ (-20 ≤ x2 ∧ x2 ≤ 20) ∧ (-20 ≤ x3 ∧ x3 ≤ 20) ∧ (-20 ≤ x4 ∧ x4 ≤ 20) ∧ (-20 ≤ x5 ∧ x5 ≤ 20) ∧ (-20 ≤ x6 ∧ x6 ≤ 20) ∧ (-20 ≤ x7 ∧ x7 ≤ 20) ∧ (-20 ≤ x8 ∧ x8 ≤ 20)) : rI (qf_det ((x0, x1, x2), (x3, x4, x5), (x6, x7, x8))) := by
  obtain ⟨g0, g1, g2, g3, g4, g5, g6, g7, g8⟩ := hr
  have a1 := bd_mul g4 g8
  have a2 := bd_mul g5 g7
  have a3 := bd_mul g3 g8
  have a4 := bd_mul g5 g6
  have a5 := bd_mul g3 g7
  have a6 := bd_mul g4 g6
  have b1 := bd_mul (a := x0) (b := x4 * x8 - x5 * x7) (A := 20) (B := 800) g0 (by omega)
  have b2 := bd_mul (a := x1) (b := x3 * x8 - x5 * x6) (A := 20) (B := 800) g1 (by omega)
  have b3 := bd_mul (a := x2) (b := x3 * x7 - x4 * x6) (A := 20) (B := 800) g2 (by omega)
  unfold qf_det
  constructor <;> dsimp only <;> omega
theorem t7_d {x0 x1 x2 x3 x4 x5 x6 x7 x8 : Int} : (Int32.ofInt x0) * ((Int32.ofInt x4) * (Int32.ofInt x8) - (Int32.ofInt x5) * (Int32.ofInt x7)) + (Int32.ofInt x1) * ((Int32.ofInt x5) * (Int32.ofInt x6) - (Int32.ofInt x3) * (Int32.ofInt x8)) + (Int32.ofInt x2) * ((Int32.ofInt x3) * (Int32.ofInt x7) - (Int32.ofInt x4) * (Int32.ofInt x6)) = Int32.ofInt (qf_det ((x0, x1, x2), (x3, x4, x5), (x6, x7, x8))) := by
  simp only [← Int32.ofInt_mul, ← Int32.ofInt_sub, ← Int32.ofInt_add]
  congr 1
  unfold qf_det
  dsimp only
  grind
theorem v60_3 {a b c : Int} (ha : -20 ≤ a ∧ a ≤ 20) (hb : -20 ≤ b ∧ b ≤ 20) (hc : -20 ≤ c ∧ c ≤ 20) : v60 (a, b, c) := ⟨⟨by dsimp only; omega, by dsimp only; omega⟩, ⟨by dsimp only; omega, by dsimp only; omega⟩, ⟨by dsimp only; omega, by dsimp only; omega⟩⟩
theorem t7_in {hc : Nat} (h1 : hc ≤ 12) {z y : Int} (hz : rI z) (hy : rI y) (g : 0 ≤ z ∧ z < hc) (gy : 0 ≤ y ∧ y < hc) (num : Nat → Int32) (q : Nat → Int64) {x0 x1 x2 x3 x4 x5 x6 x7 x8 : Int} (r0 : rI x0) (r1 : rI x1) (r2 : rI x2) (r3 : rI x3) (r4 : rI x4) (r5 : rI x5) (r6 : rI x6) (r7 : rI x7) (r8 : rI x8) (fu : Nat) (hfu : 100 ≤ fu) (hr : (-20 ≤ x0 ∧ x0 ≤ 20) ∧ (-20 ≤ x1 ∧ x1 ≤ 20) ∧ (-20 ≤ x2 ∧ x2 ≤ 20) ∧ (-20 ≤ x3 ∧ x3 ≤ 20) ∧ (-20 ≤ x4 ∧ x4 ≤ 20) ∧ (-20 ≤ x5 ∧ x5 ≤ 20) ∧ (-20 ≤ x6 ∧ x6 ≤ 20) ∧ (-20 ≤ x7 ∧ x7 ≤ 20) ∧ (-20 ≤ x8 ∧ x8 ≤ 20)) {k j : Nat} (hkc : k < hc) (hjc : j < hc) (ek : Int32.ofInt z = ix k) (ej : Int32.ofInt y = ix j) {QK QJ : F6} (hK : fitQ QK) (hJ : fitQ QJ) (nk : a6 (fun i => num (6 * k + i)) QK) (nj : a6 (fun i => num (6 * j + i)) QJ) : (¬ (qf_det ((x0, x1, x2), (x3, x4, x5), (x6, x7, x8)) = 1 ∨ qf_det ((x0, x1, x2), (x3, x4, x5), (x6, x7, x8)) = -1) ∧ fX7_turns fu (ix hc) num q (Int32.ofInt z) (Int32.ofInt y) (Int32.ofInt x0) (Int32.ofInt x1) (Int32.ofInt x2) (Int32.ofInt x3) (Int32.ofInt x4) (Int32.ofInt x5) (Int32.ofInt x6) (Int32.ofInt x7) (Int32.ofInt x8) = some (0, q)) ∨ ((qf_det ((x0, x1, x2), (x3, x4, x5), (x6, x7, x8)) = 1 ∨ qf_det ((x0, x1, x2), (x3, x4, x5), (x6, x7, x8)) = -1) ∧ ∃ q', (qf_trn QK ((x0, x1, x2), (x3, x4, x5), (x6, x7, x8)) = QJ ∧ fX7_turns fu (ix hc) num q (Int32.ofInt z) (Int32.ofInt y) (Int32.ofInt x0) (Int32.ofInt x1) (Int32.ofInt x2) (Int32.ofInt x3) (Int32.ofInt x4) (Int32.ofInt x5) (Int32.ofInt x6) (Int32.ofInt x7) (Int32.ofInt x8) = some (1, q')) ∨ (¬ qf_trn QK ((x0, x1, x2), (x3, x4, x5), (x6, x7, x8)) = QJ ∧ fX7_turns fu (ix hc) num q (Int32.ofInt z) (Int32.ofInt y) (Int32.ofInt x0) (Int32.ofInt x1) (Int32.ofInt x2) (Int32.ofInt x3) (Int32.ofInt x4) (Int32.ofInt x5) (Int32.ofInt x6) (Int32.ofInt x7) (Int32.ofInt x8) = some (0, q'))) := by
  have hdr := t7_det hr
  obtain ⟨g0, g1, g2, g3, g4, g5, g6, g7, g8⟩ := hr
  obtain ⟨q1, e1, hq1⟩ := l7_hold (show k < 12 by omega) nk (fit_qs hK) q (F := fu) hfu
  have u0 := v60_3 g0 g1 g2
  have u1 := v60_3 g3 g4 g5
  have u2 := v60_3 g6 g7 g8
  obtain ⟨n0, n1, n2, n3, n4, n5⟩ := nj
  obtain ⟨s0, s1, s2, s3, s4, s5⟩ := fit_qs hJ
  dsimp only at n0 n1 n2 n3 n4 n5
  have b0 := qs_val (fit_qs hK) u0
  have b1 := qs_val (fit_qs hK) u1
  have b2 := qs_val (fit_qs hK) u2
  have b3 := qs_tch (fit_qs hK) u1 u2
  have b4 := qs_tch (fit_qs hK) u0 u2
  have b5 := qs_tch (fit_qs hK) u0 u1
  have e2 : fX7_valueOf q1 (Int64.ofInt x0) (Int64.ofInt x1) (Int64.ofInt x2) = some (Int64.ofInt (qf_val QK (x0, x1, x2))) := l7_val hq1 (x0, x1, x2)
  have t0 : (Int64.ofInt (qf_val QK (x0, x1, x2)) = (num ((6 : Int32) * ix j).toNatClampNeg).toInt64) = (qf_val QK (x0, x1, x2) = QJ.1) := by
    rw [ix_6, ix_mul, ix_nat (by omega)]
    have en : num (6 * j) = Int32.ofInt QJ.1 := n0
    rw [en, zi_wide ⟨by omega, by omega⟩]
    exact propext (zl_eq ⟨by omega, by omega⟩ ⟨by omega, by omega⟩)
  have k0 : okI ((6 : Int32) * ix j) 72 = True := by
    rw [ix_6, ix_mul]
    exact eq_true (ix_ok (by omega) (by decide))
  have e3 : fX7_valueOf q1 (Int64.ofInt x3) (Int64.ofInt x4) (Int64.ofInt x5) = some (Int64.ofInt (qf_val QK (x3, x4, x5))) := l7_val hq1 (x3, x4, x5)
  have t1 : (Int64.ofInt (qf_val QK (x3, x4, x5)) = (num ((6 : Int32) * ix j + 1).toNatClampNeg).toInt64) = (qf_val QK (x3, x4, x5) = QJ.2.1) := by
    rw [ix_6, ix_mul, ix_1, ix_add, ix_nat (by omega)]
    have en : num (6 * j + 1) = Int32.ofInt QJ.2.1 := n1
    rw [en, zi_wide ⟨by omega, by omega⟩]
    exact propext (zl_eq ⟨by omega, by omega⟩ ⟨by omega, by omega⟩)
  have k1 : okI ((6 : Int32) * ix j + 1) 72 = True := by
    rw [ix_6, ix_mul, ix_1, ix_add]
    exact eq_true (ix_ok (by omega) (by decide))
  have e4 : fX7_valueOf q1 (Int64.ofInt x6) (Int64.ofInt x7) (Int64.ofInt x8) = some (Int64.ofInt (qf_val QK (x6, x7, x8))) := l7_val hq1 (x6, x7, x8)
  have t2 : (Int64.ofInt (qf_val QK (x6, x7, x8)) = (num ((6 : Int32) * ix j + 2).toNatClampNeg).toInt64) = (qf_val QK (x6, x7, x8) = QJ.2.2.1) := by
    rw [ix_6, ix_mul, ix_2, ix_add, ix_nat (by omega)]
    have en : num (6 * j + 2) = Int32.ofInt QJ.2.2.1 := n2
    rw [en, zi_wide ⟨by omega, by omega⟩]
    exact propext (zl_eq ⟨by omega, by omega⟩ ⟨by omega, by omega⟩)
  have k2 : okI ((6 : Int32) * ix j + 2) 72 = True := by
    rw [ix_6, ix_mul, ix_2, ix_add]
    exact eq_true (ix_ok (by omega) (by decide))
  have e5 : fX7_touchOf q1 (Int64.ofInt x3) (Int64.ofInt x4) (Int64.ofInt x5) (Int64.ofInt x6) (Int64.ofInt x7) (Int64.ofInt x8) = some (Int64.ofInt (qf_tch QK (x3, x4, x5) (x6, x7, x8))) := l7_tch hq1 (x3, x4, x5) (x6, x7, x8)
  have t3 : (Int64.ofInt (qf_tch QK (x3, x4, x5) (x6, x7, x8)) = (num ((6 : Int32) * ix j + 3).toNatClampNeg).toInt64) = (qf_tch QK (x3, x4, x5) (x6, x7, x8) = QJ.2.2.2.1) := by
    rw [ix_6, ix_mul, ix_3, ix_add, ix_nat (by omega)]
    have en : num (6 * j + 3) = Int32.ofInt QJ.2.2.2.1 := n3
    rw [en, zi_wide ⟨by omega, by omega⟩]
    exact propext (zl_eq ⟨by omega, by omega⟩ ⟨by omega, by omega⟩)
  have k3 : okI ((6 : Int32) * ix j + 3) 72 = True := by
    rw [ix_6, ix_mul, ix_3, ix_add]
    exact eq_true (ix_ok (by omega) (by decide))
  have e6 : fX7_touchOf q1 (Int64.ofInt x0) (Int64.ofInt x1) (Int64.ofInt x2) (Int64.ofInt x6) (Int64.ofInt x7) (Int64.ofInt x8) = some (Int64.ofInt (qf_tch QK (x0, x1, x2) (x6, x7, x8))) := l7_tch hq1 (x0, x1, x2) (x6, x7, x8)
  have t4 : (Int64.ofInt (qf_tch QK (x0, x1, x2) (x6, x7, x8)) = (num ((6 : Int32) * ix j + 4).toNatClampNeg).toInt64) = (qf_tch QK (x0, x1, x2) (x6, x7, x8) = QJ.2.2.2.2.1) := by
    rw [ix_6, ix_mul, show (4 : Int32) = ix 4 from rfl, ix_add, ix_nat (by omega)]
    have en : num (6 * j + 4) = Int32.ofInt QJ.2.2.2.2.1 := n4
    rw [en, zi_wide ⟨by omega, by omega⟩]
    exact propext (zl_eq ⟨by omega, by omega⟩ ⟨by omega, by omega⟩)
  have k4 : okI ((6 : Int32) * ix j + 4) 72 = True := by
    rw [ix_6, ix_mul, show (4 : Int32) = ix 4 from rfl, ix_add]
    exact eq_true (ix_ok (by omega) (by decide))
  have e7 : fX7_touchOf q1 (Int64.ofInt x0) (Int64.ofInt x1) (Int64.ofInt x2) (Int64.ofInt x3) (Int64.ofInt x4) (Int64.ofInt x5) = some (Int64.ofInt (qf_tch QK (x0, x1, x2) (x3, x4, x5))) := l7_tch hq1 (x0, x1, x2) (x3, x4, x5)
  have t5 : (Int64.ofInt (qf_tch QK (x0, x1, x2) (x3, x4, x5)) = (num ((6 : Int32) * ix j + 5).toNatClampNeg).toInt64) = (qf_tch QK (x0, x1, x2) (x3, x4, x5) = QJ.2.2.2.2.2) := by
    rw [ix_6, ix_mul, show (5 : Int32) = ix 5 from rfl, ix_add, ix_nat (by omega)]
    have en : num (6 * j + 5) = Int32.ofInt QJ.2.2.2.2.2 := n5
    rw [en, zi_wide ⟨by omega, by omega⟩]
    exact propext (zl_eq ⟨by omega, by omega⟩ ⟨by omega, by omega⟩)
  have k5 : okI ((6 : Int32) * ix j + 5) 72 = True := by
    rw [ix_6, ix_mul, show (5 : Int32) = ix 5 from rfl, ix_add]
    exact eq_true (ix_ok (by omega) (by decide))
  have z1 : (1 : Int32) = Int32.ofInt 1 := by decide
  have zm : (-1 : Int32) = Int32.ofInt (-1) := by decide
  unfold fX7_turns
  rw [x7_isForm h1 hz, bd1_s]
  rw [if_pos g, x7_isForm h1 hy, if_pos gy]
  simp only [i20p r0 g0, i20p r1 g1, i20p r2 g2, i20p r3 g3, i20p r4 g4, i20p r5 g5, i20p r6 g6, i20p r7 g7, i20p r8 g8, bd1_s, c10, ↓reduceIte, nm_eq, t7_d]
  by_cases d : qf_det ((x0, x1, x2), (x3, x4, x5), (x6, x7, x8)) = 1 ∨ qf_det ((x0, x1, x2), (x3, x4, x5), (x6, x7, x8)) = -1
  rotate_left
  · left
    refine ⟨d, ?_⟩
    have d1 : ¬ Int32.ofInt (qf_det ((x0, x1, x2), (x3, x4, x5), (x6, x7, x8))) = 1 := by rw [z1, zi_eq hdr ⟨by omega, by omega⟩]; omega
    have d2 : ¬ Int32.ofInt (qf_det ((x0, x1, x2), (x3, x4, x5), (x6, x7, x8))) = -1 := by rw [zm, zi_eq hdr ⟨by omega, by omega⟩]; omega
    rw [if_neg d1, if_neg d2]
  right
  refine ⟨d, q1, ?_⟩
  simp only [ek, ej, e1, bd1_s, zi_wide r0, zi_wide r1, zi_wide r2, zi_wide r3, zi_wide r4, zi_wide r5, zi_wide r6, zi_wide r7, zi_wide r8, e2, e3, e4, e5, e6, e7, k0, k1, k2, k3, k4, k5, t0, t1, t2, t3, t4, t5, ↓reduceIte]
  have dd : ∀ a b : Option (Int32 × (Nat → Int64)), (if Int32.ofInt (qf_det ((x0, x1, x2), (x3, x4, x5), (x6, x7, x8))) = 1 then a else if Int32.ofInt (qf_det ((x0, x1, x2), (x3, x4, x5), (x6, x7, x8))) = -1 then a else b) = a := by
    intro a b
    by_cases d1 : Int32.ofInt (qf_det ((x0, x1, x2), (x3, x4, x5), (x6, x7, x8))) = 1
    · rw [if_pos d1]
    · rw [if_neg d1, if_pos]
      rcases d with d | d
      · exact absurd (by rw [d]; decide) d1
      · rw [d]; decide
  rw [dd]
  by_cases a0 : qf_val QK (x0, x1, x2) = QJ.1
  rotate_left
  · right
    refine ⟨fun t => a0 (congrArg (fun z : F6 => z.1) t), ?_⟩
    simp only [a0, ↓reduceIte]
  by_cases a1 : qf_val QK (x3, x4, x5) = QJ.2.1
  rotate_left
  · right
    refine ⟨fun t => a1 (congrArg (fun z : F6 => z.2.1) t), ?_⟩
    simp only [a0, a1, c10, ↓reduceIte]
  by_cases a2 : qf_val QK (x6, x7, x8) = QJ.2.2.1
  rotate_left
  · right
    refine ⟨fun t => a2 (congrArg (fun z : F6 => z.2.2.1) t), ?_⟩
    simp only [a0, a1, a2, c10, ↓reduceIte]
  by_cases a3 : qf_tch QK (x3, x4, x5) (x6, x7, x8) = QJ.2.2.2.1
  rotate_left
  · right
    refine ⟨fun t => a3 (congrArg (fun z : F6 => z.2.2.2.1) t), ?_⟩
    simp only [a0, a1, a2, a3, c10, ↓reduceIte]
  by_cases a4 : qf_tch QK (x0, x1, x2) (x6, x7, x8) = QJ.2.2.2.2.1
  rotate_left
  · right
    refine ⟨fun t => a4 (congrArg (fun z : F6 => z.2.2.2.2.1) t), ?_⟩
    simp only [a0, a1, a2, a3, a4, c10, ↓reduceIte]
  by_cases a5 : qf_tch QK (x0, x1, x2) (x3, x4, x5) = QJ.2.2.2.2.2
  rotate_left
  · right
    refine ⟨fun t => a5 (congrArg (fun z : F6 => z.2.2.2.2.2) t), ?_⟩
    simp only [a0, a1, a2, a3, a4, a5, c10, ↓reduceIte]
  left
  refine ⟨Prod.ext a0 (Prod.ext a1 (Prod.ext a2 (Prod.ext a3 (Prod.ext a4 a5)))), ?_⟩
  simp only [a0, a1, a2, a3, a4, a5, c10, ↓reduceIte]
