/-! calls: line, neighbour -/
theorem x6_refusal {hc p : Nat} (h1 : hc ≤ 12) (hp : p = 3 ∨ p = 5 ∨ p = 7) {z i y m : Int} (hz : rI z) (hi : rI i) (hy : rI y) (hm : 0 ≤ m ∧ m ≤ 10) {fd : Int32} {D : Int} (hD : 0 ≤ z ∧ z < hc → fd = Int32.ofInt D ∧ 0 ≤ D ∧ D ≤ 6912) : (¬ (0 ≤ z ∧ z < hc) ∧ fX6_refusalOfLine (ix hc) (ix p) fd (Int32.ofInt z) (Int32.ofInt i) (Int32.ofInt y) (Int32.ofInt m) = some (-100001)) ∨ ((0 ≤ z ∧ z < hc) ∧ ¬ (0 ≤ i ∧ i ≤ p) ∧ fX6_refusalOfLine (ix hc) (ix p) fd (Int32.ofInt z) (Int32.ofInt i) (Int32.ofInt y) (Int32.ofInt m) = some (-100002)) ∨ ((0 ≤ z ∧ z < hc) ∧ (0 ≤ i ∧ i ≤ p) ∧ ¬ (0 ≤ y ∧ y ≤ m) ∧ fX6_refusalOfLine (ix hc) (ix p) fd (Int32.ofInt z) (Int32.ofInt i) (Int32.ofInt y) (Int32.ofInt m) = some (-100002)) ∨ ((0 ≤ z ∧ z < hc) ∧ (0 ≤ i ∧ i ≤ p) ∧ (0 ≤ y ∧ y ≤ m) ∧ (p : Int) ∣ D ∧ fX6_refusalOfLine (ix hc) (ix p) fd (Int32.ofInt z) (Int32.ofInt i) (Int32.ofInt y) (Int32.ofInt m) = some (-100003)) ∨ ((0 ≤ z ∧ z < hc) ∧ (0 ≤ i ∧ i ≤ p) ∧ (0 ≤ y ∧ y ≤ m) ∧ ¬ (p : Int) ∣ D ∧ fX6_refusalOfLine (ix hc) (ix p) fd (Int32.ofInt z) (Int32.ofInt i) (Int32.ofInt y) (Int32.ofInt m) = some 0) := by
  have z0 : (0 : Int32) = Int32.ofInt 0 := rfl
  have o1 : fX6_isOutside (Int32.ofInt i) 0 (ix p) = some (if 0 ≤ i ∧ i ≤ p then 0 else 1) := x6_outL hi (a := 0) (b := p) (by first | rfl | decide) (by first | rfl | decide) ⟨by omega, by omega⟩ ⟨by omega, by omega⟩
  have o2 : fX6_isOutside (Int32.ofInt y) 0 (Int32.ofInt m) = some (if 0 ≤ y ∧ y ≤ m then 0 else 1) := x6_outL hy (a := 0) (b := m) (by first | rfl | decide) (by first | rfl | decide) ⟨by omega, by omega⟩ ⟨by omega, by omega⟩
  unfold fX6_refusalOfLine
  rw [x6_unk h1 hz, bd1_s]
  by_cases g : 0 ≤ z ∧ z < hc
  · obtain ⟨e1, e2⟩ := hD g
    subst e1
    rw [if_pos g, if_pos z00, o1, bd1_s]
    dsimp only [nm_eq]
    by_cases g1 : 0 ≤ i ∧ i ≤ p
    · rw [if_pos g1, if_pos z00, o2, bd1_s]
      by_cases g2 : 0 ≤ y ∧ y ≤ m
      · have hok : okI (Int32.ofInt z) 12 := by rw [z_ix g.1]; exact ix_ok (by omega) (by decide)
        rw [if_pos g2, if_pos z00, x6_goes e2 hp hok, bd1_s]
        by_cases g3 : (p : Int) ∣ D
        · rw [if_pos g3, if_neg n10]
          exact Or.inr (Or.inr (Or.inr (Or.inl ⟨g, g1, g2, g3, rfl⟩)))
        · rw [if_neg g3, if_pos z00]
          exact Or.inr (Or.inr (Or.inr (Or.inr ⟨g, g1, g2, g3, rfl⟩)))
      · rw [if_neg g2, if_neg n10]
        exact Or.inr (Or.inr (Or.inl ⟨g, g1, g2, rfl⟩))
    · rw [if_neg g1, if_neg n10]
      exact Or.inr (Or.inl ⟨g, g1, rfl⟩)
  · rw [if_neg g, if_neg n10]
    exact Or.inl ⟨g, rfl⟩
theorem v3_at {s : Nat → Int32} {i : Nat} {v : V3} (h : av s i v) {j : Nat} (hj : j < 3) : s (i + j) = Int32.ofInt (col j v) := by
  obtain ⟨h0, h1, h2⟩ := h
  have : j = 0 ∨ j = 1 ∨ j = 2 := by omega
  rcases this with e | e | e <;> subst e
  · exact h0
  · exact h1
  · exact h2
theorem v3l_at {s : Nat → Int64} {i : Nat} {v : V3} (h : avl s i v) {j : Nat} (hj : j < 3) : s (i + j) = Int64.ofInt (col j v) := by
  obtain ⟨h0, h1, h2⟩ := h
  have : j = 0 ∨ j = 1 ∨ j = 2 := by omega
  rcases this with e | e | e <;> subst e
  · exact h0
  · exact h1
  · exact h2
theorem S_line {held p_ : Int32} {box : Nat → Int32} {F : Nat → FS} {forms prime : Int32} {num : Nat → Int32} {hc p : Nat} {QF : Nat → F6} (h : INVx held p_ box F forms prime num hc p QF) {k : Nat} (p0 p1 p2 : Int32) (hk : okI p0 12 → p0.toNatClampNeg = k) (fo lp lt lu : Int32) (six all w : Nat → Int32) (mt mu : Int32) (q ln : Nat → Int64) {fu : Nat} (hfu : 4000000000000 ≤ fu) : ∃ a fo' lp' lt' lu' six' all' w' mt' mu' q' ln', fX6_line fu held p_ (F k).1 (F k).2.2.1 fo lp lt lu six all w p0 p1 p2 = some (a, fo', lp', lt', lu', six', all', w') ∧ fX7_line fu forms prime mt mu num q ln p0 p1 p2 = some (a, mt', mu', q', ln') := by
  obtain ⟨h1, h2, h3, h4, h5, h6, h7, h8⟩ := h
  obtain ⟨z, hz, rfl⟩ := z_ex p0
  obtain ⟨i, hi, rfl⟩ := z_ex p1
  obtain ⟨y, hy, rfl⟩ := z_ex p2
  subst h3; subst h4; subst h6; subst h7
  have oi : fX7_in (Int32.ofInt i).toInt64 0 (ix p).toInt64 = some (if 0 ≤ i ∧ i ≤ p then 1 else 0) := by
    rw [ix_wide (by omega)]
    exact x7_inL hi (a := 0) (b := p) (by first | rfl | decide) (by first | rfl | decide) ⟨by omega, by omega⟩ ⟨by omega, by omega⟩
  have oy : fX7_in (Int32.ofInt y).toInt64 0 4 = some (if 0 ≤ y ∧ y ≤ 4 then 1 else 0) := x7_inL hy (a := 0) (b := 4) (by first | rfl | decide) (by first | rfl | decide) ⟨by omega, by omega⟩ ⟨by omega, by omega⟩
  have href := x6_refusal (m := 4) h1 h2 hz hi hy ⟨by omega, by omega⟩ (fd := (F k).1) (D := qf_disc (QF k)) (fun g => by
    obtain ⟨ek, hkc⟩ := kn g h1 hk
    obtain ⟨f1, f2, f3, _⟩ := (h8 k hkc).1
    have := f1.2.2
    exact ⟨f3, by omega, fit_D f1⟩)
  unfold fX6_line fX7_line
  rw [x7_isForm h1 hz, bd1_s]
  rcases href with ⟨g, e⟩ | ⟨g, g1, e⟩ | ⟨g, g1, g2, e⟩ | ⟨g, g1, g2, g3, e⟩ | ⟨g, g1, g2, g3, e⟩
  · have e' : fX6_refusalOfLine (ix hc) (ix p) (F k).1 (Int32.ofInt z) (Int32.ofInt i) (Int32.ofInt y) 4 = some (-100001) := e
    rw [e', bd1_s, if_neg (by decide), if_neg g, if_pos z00]
    exact ⟨_, _, _, _, _, _, _, _, _, _, _, _, rfl, rfl⟩
  · have e' : fX6_refusalOfLine (ix hc) (ix p) (F k).1 (Int32.ofInt z) (Int32.ofInt i) (Int32.ofInt y) 4 = some (-100002) := e
    rw [e', bd1_s, if_neg (by decide), if_pos g, if_neg n10, oi, bd1_s, if_neg g1]
    exact ⟨_, _, _, _, _, _, _, _, _, _, _, _, rfl, rfl⟩
  · have e' : fX6_refusalOfLine (ix hc) (ix p) (F k).1 (Int32.ofInt z) (Int32.ofInt i) (Int32.ofInt y) 4 = some (-100002) := e
    rw [e', bd1_s, if_neg (by decide), if_pos g, if_neg n10, oi, bd1_s, if_pos g1]
    dsimp only [nm_eq]
    rw [if_neg n10, oy, bd1_s, if_neg g2, if_pos z00]
    exact ⟨_, _, _, _, _, _, _, _, _, _, _, _, rfl, rfl⟩
  · obtain ⟨ek, hkc⟩ := kn g h1 hk
    obtain ⟨⟨f1, f2, f3, _⟩, hn⟩ := h8 k hkc
    have hd0 := f1.2.2
    obtain ⟨q1, e1, hq1⟩ := l7_hold (show k < 12 by omega) hn (fit_qs f1) q (F := fu) (by omega)
    have e' : fX6_refusalOfLine (ix hc) (ix p) (F k).1 (Int32.ofInt z) (Int32.ofInt i) (Int32.ofInt y) 4 = some (-100003) := e
    rw [e', bd1_s, if_neg (by decide), if_pos g, if_neg n10, oi, bd1_s, if_pos g1]
    dsimp only [nm_eq]
    rw [if_neg n10, oy, bd1_s, if_pos g2, if_neg n10, ek, e1, bd1_s, l7_divides hq1 ⟨by omega, fit_D f1⟩ h2, bd1_s, if_pos g3, if_neg n10]
    exact ⟨_, _, _, _, _, _, _, _, _, _, _, _, rfl, rfl⟩
  · obtain ⟨ek, hkc⟩ := kn g h1 hk
    obtain ⟨⟨f1, f2, f3, _⟩, hn⟩ := h8 k hkc
    have hd0 := f1.2.2
    obtain ⟨q1, e1, hq1⟩ := l7_hold (show k < 12 by omega) hn (fit_qs f1) q (F := fu) (by omega)
    have e' : fX6_refusalOfLine (ix hc) (ix p) (F k).1 (Int32.ofInt z) (Int32.ofInt i) (Int32.ofInt y) 4 = some 0 := e
    have ei := z_ix g1.1
    have hin : i.toNat ≤ p := by omega
    generalize i.toNat = i' at ei hin
    have ey := z_ix g2.1
    have hyn : y.toNat ≤ 4 := by omega
    generalize y.toNat = y' at ey hyn
    obtain ⟨l, u, t, hLN⟩ := LN_ex h2 g3 hin
    obtain ⟨fo', six', all', e2, hs, hall⟩ := x2_all (fit_qs f1) h2 f2 six all (F := fu) (by omega)
    obtain ⟨w', e3, _, _⟩ := x2_choose h2 hs (fit_qs f1) hall (by omega) hLN w (F := fu) (by omega)
    obtain ⟨ln', e4, hl, _⟩ := l7_findLine hq1 (fit_qs f1) h2 (by omega) hLN ln (F := fu) (by omega)
    rw [e', bd1_s, if_pos z00, if_pos g, if_neg n10, oi, bd1_s, if_pos g1]
    dsimp only [nm_eq]
    rw [if_neg n10, oy, bd1_s, if_pos g2, if_neg n10, ek, if_pos (ix_ok (by omega) (by decide)), e1, bd1_s, l7_divides hq1 ⟨by omega, fit_D f1⟩ h2, bd1_s, if_neg g3, if_pos z00, e2, bd4_s, ei, ey, e3, bd3_s, e4, bd3_s, ix_3]
    by_cases y3 : 3 ≤ y'
    · rw [if_pos ((ix_le (by decide) (by omega)).mpr y3), if_pos ((ix_le (by decide) (by omega)).mpr y3)]
      by_cases ye : y' = 3
      · rw [if_pos (by rw [ye]), if_pos (by rw [ye])]
        exact ⟨_, _, _, _, _, _, _, _, _, _, _, _, rfl, rfl⟩
      · rw [if_neg (fun t => ye ((ix_eq (by omega) (by decide)).mp t)), if_neg (fun t => ye ((ix_eq (by omega) (by decide)).mp t))]
        exact ⟨_, _, _, _, _, _, _, _, _, _, _, _, rfl, rfl⟩
    · have ep : fX2_part all' (ix i') (ix y') = some (Int32.ofInt (col y' l)) := by
        unfold fX2_part
        dsimp only [nm_eq]
        rw [ix_3, ix_mul, ix_add, if_pos (ix_ok (by omega) (by decide)), ix_nat (by omega), v3_at (hall i' l (by omega) hLN.1) (by omega)]
      have el : ln' y' = Int64.ofInt (col y' l) := by
        have := v3l_at hl (j := y') (by omega)
        rw [Nat.zero_add] at this
        exact this
      rw [if_neg (fun t => y3 ((ix_le (by decide) (by omega)).mp t)), if_neg (fun t => y3 ((ix_le (by decide) (by omega)).mp t)), ep, bd1_s, if_pos (ix_ok (by omega) (by decide)), ix_nat (by omega), el, zi_narrow]
      exact ⟨_, _, _, _, _, _, _, _, _, _, _, _, rfl, rfl⟩
theorem S_neighbour {held p_ : Int32} {box : Nat → Int32} {F : Nat → FS} {forms prime : Int32} {num : Nat → Int32} {hc p : Nat} {QF : Nat → F6} (h : INVx held p_ box F forms prime num hc p QF) {k : Nat} (p0 p1 p2 : Int32) (hk : okI p0 12 → p0.toNatClampNeg = k) (fo lp lt lu : Int32) (six all w b c : Nat → Int32) (ti : Int32) (s r wo im be br : Nat → Int32) (tn mt mu : Int32) (q ba le tb ro li : Nat → Int64) (sz : Nat → Int32) (tr ln mk tc md : Nat → Int64) {fu : Nat} (hfu : 4000000000000 ≤ fu) : ∃ a fo' lp' lt' lu' six' all' w' b' c' ti' s' r' wo' im' be' br' tn' mt' mu' q' ba' le' tb' ro' li' sz' tr' ln' mk' tc' md', fX6_neighbour fu held p_ (F k).1 (F k).2.2.1 fo lp lt lu six all w b c ti s r box wo im be br p0 p1 p2 = some (a, fo', lp', lt', lu', six', all', w', b', c', ti', s', r', wo', im', be', br') ∧ fX7_neighbour fu forms prime tn mt mu num q ba le tb ro li sz tr ln mk tc md p0 p1 p2 = some (a, tn', mt', mu', q', ba', le', tb', ro', li', sz', tr', ln', mk', tc', md') := by
  obtain ⟨h1, h2, h3, h4, h5, h6, h7, h8⟩ := h
  obtain ⟨z, hz, rfl⟩ := z_ex p0
  obtain ⟨i, hi, rfl⟩ := z_ex p1
  obtain ⟨y, hy, rfl⟩ := z_ex p2
  subst h3; subst h4; subst h6; subst h7
  have oi : fX7_in (Int32.ofInt i).toInt64 0 (ix p).toInt64 = some (if 0 ≤ i ∧ i ≤ p then 1 else 0) := by
    rw [ix_wide (by omega)]
    exact x7_inL hi (a := 0) (b := p) (by first | rfl | decide) (by first | rfl | decide) ⟨by omega, by omega⟩ ⟨by omega, by omega⟩
  have oy : fX7_in (Int32.ofInt y).toInt64 0 5 = some (if 0 ≤ y ∧ y ≤ 5 then 1 else 0) := x7_inL hy (a := 0) (b := 5) (by first | rfl | decide) (by first | rfl | decide) ⟨by omega, by omega⟩ ⟨by omega, by omega⟩
  have href := x6_refusal (m := 5) h1 h2 hz hi hy ⟨by omega, by omega⟩ (fd := (F k).1) (D := qf_disc (QF k)) (fun g => by
    obtain ⟨ek, hkc⟩ := kn g h1 hk
    obtain ⟨f1, f2, f3, _⟩ := (h8 k hkc).1
    have := f1.2.2
    exact ⟨f3, by omega, fit_D f1⟩)
  unfold fX6_neighbour fX7_neighbour
  rw [x7_isForm h1 hz, bd1_s]
  rcases href with ⟨g, e⟩ | ⟨g, g1, e⟩ | ⟨g, g1, g2, e⟩ | ⟨g, g1, g2, g3, e⟩ | ⟨g, g1, g2, g3, e⟩
  · have e' : fX6_refusalOfLine (ix hc) (ix p) (F k).1 (Int32.ofInt z) (Int32.ofInt i) (Int32.ofInt y) 5 = some (-100001) := e
    rw [e', bd1_s, if_neg (by decide), if_neg g, if_pos z00]
    exact ⟨_, _, _, _, _, _, _, _, _, _, _, _, _, _, _, _, _, _, _, _, _, _, _, _, _, _, _, _, _, _, _, _, rfl, rfl⟩
  · have e' : fX6_refusalOfLine (ix hc) (ix p) (F k).1 (Int32.ofInt z) (Int32.ofInt i) (Int32.ofInt y) 5 = some (-100002) := e
    rw [e', bd1_s, if_neg (by decide), if_pos g, if_neg n10, oi, bd1_s, if_neg g1]
    exact ⟨_, _, _, _, _, _, _, _, _, _, _, _, _, _, _, _, _, _, _, _, _, _, _, _, _, _, _, _, _, _, _, _, rfl, rfl⟩
  · have e' : fX6_refusalOfLine (ix hc) (ix p) (F k).1 (Int32.ofInt z) (Int32.ofInt i) (Int32.ofInt y) 5 = some (-100002) := e
    rw [e', bd1_s, if_neg (by decide), if_pos g, if_neg n10, oi, bd1_s, if_pos g1]
    dsimp only [nm_eq]
    rw [if_neg n10, oy, bd1_s, if_neg g2, if_pos z00]
    exact ⟨_, _, _, _, _, _, _, _, _, _, _, _, _, _, _, _, _, _, _, _, _, _, _, _, _, _, _, _, _, _, _, _, rfl, rfl⟩
  · obtain ⟨ek, hkc⟩ := kn g h1 hk
    obtain ⟨⟨f1, f2, f3, _⟩, hn⟩ := h8 k hkc
    have hd0 := f1.2.2
    obtain ⟨q1, e1, hq1⟩ := l7_hold (show k < 12 by omega) hn (fit_qs f1) q (F := fu) (by omega)
    have e' : fX6_refusalOfLine (ix hc) (ix p) (F k).1 (Int32.ofInt z) (Int32.ofInt i) (Int32.ofInt y) 5 = some (-100003) := e
    rw [e', bd1_s, if_neg (by decide), if_pos g, if_neg n10, oi, bd1_s, if_pos g1]
    dsimp only [nm_eq]
    rw [if_neg n10, oy, bd1_s, if_pos g2, if_neg n10, ek, e1, bd1_s, l7_divides hq1 ⟨by omega, fit_D f1⟩ h2, bd1_s, if_pos g3, if_neg n10]
    exact ⟨_, _, _, _, _, _, _, _, _, _, _, _, _, _, _, _, _, _, _, _, _, _, _, _, _, _, _, _, _, _, _, _, rfl, rfl⟩
  · obtain ⟨ek, hkc⟩ := kn g h1 hk
    obtain ⟨⟨f1, f2, f3, _⟩, hn⟩ := h8 k hkc
    have hd0 := f1.2.2
    obtain ⟨q1, e1, hq1⟩ := l7_hold (show k < 12 by omega) hn (fit_qs f1) q (F := fu) (by omega)
    have e' : fX6_refusalOfLine (ix hc) (ix p) (F k).1 (Int32.ofInt z) (Int32.ofInt i) (Int32.ofInt y) 5 = some 0 := e
    have ei := z_ix g1.1
    have hin : i.toNat ≤ p := by omega
    generalize i.toNat = i' at ei hin
    have ey := z_ix g2.1
    have hyn : y.toNat ≤ 5 := by omega
    generalize y.toNat = y' at ey hyn
    obtain ⟨fo', six', all', e2, hs, hall⟩ := x2_all (fit_qs f1) h2 f2 six all (F := fu) (by omega)
    obtain ⟨lt', lu', w', b', c', s', r', wo', im', be', br', L, n, e3, e4, e5, hN, hL⟩ := x2_nb (fit_pd f1) (fit_qs f1) h2 hin g3 hs hall h5 w b c s r wo im be br (F := fu) (by omega)
    obtain ⟨tn', mt', mu', q', ba', le', tb', ro', li', sz', tr', ln', mk', tc', md', e6, L', n', hN', en', hL'⟩ := l7_nb (fit_pd f1) (fit_qs f1) (fit_D f1) hq1 h2 hin g3 ba le tb ro li sz tr ln mk tc md hfu
    obtain ⟨u1, u2⟩ := NB_eq hN hN'
    subst u1
    rw [e', bd1_s, if_pos z00, if_pos g, if_neg n10, oi, bd1_s, if_pos g1]
    dsimp only [nm_eq]
    rw [if_neg n10, oy, bd1_s, if_pos g2, if_neg n10, ek, if_pos (ix_ok (by omega) (by decide)), e1, bd1_s, l7_divides hq1 ⟨by omega, fit_D f1⟩ h2, bd1_s, if_neg g3, if_pos z00, e2, bd4_s, ei, ey, e3, bd3_s, e4, bd2_s, e5, bd7_s, e6, bd15_s, if_pos (ix_ok (by omega) (by decide)), if_pos (ix_ok (by omega) (by decide)), ix_nat (by omega), a6_at hL (by omega), al6_at hL' (by omega), zi_narrow]
    exact ⟨_, _, _, _, _, _, _, _, _, _, _, _, _, _, _, _, _, _, _, _, _, _, _, _, _, _, _, _, _, _, _, _, rfl, rfl⟩
