/-! calls: value, taken, same -/
theorem S_value {held p_ : Int32} {box : Nat → Int32} {F : Nat → FS} {forms prime : Int32} {num : Nat → Int32} {hc p : Nat} {QF : Nat → F6} (h : INVx held p_ box F forms prime num hc p QF) {k : Nat} (p0 p1 p2 p3 : Int32) (hk : okI p0 12 → p0.toNatClampNeg = k) (q : Nat → Int64) {fu : Nat} (hfu : 4000000000000 ≤ fu) : ∃ r q', fX6_value held (F k).2.2.1 p0 p1 p2 p3 = some r ∧ fX7_value fu forms num q p0 p1 p2 p3 = some (r, q') := by
  obtain ⟨h1, h2, h3, h4, h5, h6, h7, h8⟩ := h
  obtain ⟨z, hz, rfl⟩ := z_ex p0
  obtain ⟨x, hx, rfl⟩ := z_ex p1
  obtain ⟨y, hy, rfl⟩ := z_ex p2
  obtain ⟨u, hu, rfl⟩ := z_ex p3
  unfold fX6_value fX7_value
  have o1 : ∀ x : Int, rI x → fX6_isOutside (Int32.ofInt x) (-1000) 1000 = some (if -1000 ≤ x ∧ x ≤ 1000 then 0 else 1) := fun x hx => x6_outL hx (a := -1000) (b := 1000) (by first | rfl | decide) (by first | rfl | decide) ⟨by omega, by omega⟩ ⟨by omega, by omega⟩
  have o2 : ∀ x : Int, rI x → fX7_in (Int32.ofInt x).toInt64 (-1000) 1000 = some (if -1000 ≤ x ∧ x ≤ 1000 then 1 else 0) := fun x hx => x7_inL hx (a := -1000) (b := 1000) (by first | rfl | decide) (by first | rfl | decide) ⟨by omega, by omega⟩ ⟨by omega, by omega⟩
  rw [h3, h6, x6_unk h1 hz, x7_isForm h1 hz, bd1_s, bd1_s]
  by_cases g : 0 ≤ z ∧ z < hc
  · obtain ⟨ek, hkc⟩ := kn g h1 hk
    obtain ⟨⟨f1, f2, f3, L, T, n, f4, f5, f6, f7, f8⟩, hn⟩ := h8 k hkc
    rw [if_pos g, if_pos z00, if_pos g, if_neg n10, o1 x hx, o2 x hx, bd1_s, bd1_s]
    dsimp only [nm_eq]
    by_cases g1 : -1000 ≤ x ∧ x ≤ 1000
    · rw [if_pos g1, if_pos z00, if_pos g1, if_neg n10, o1 y hy, o2 y hy, bd1_s, bd1_s]
      by_cases g2 : -1000 ≤ y ∧ y ≤ 1000
      · rw [if_pos g2, if_pos z00, if_pos g2, if_neg n10, o1 u hu, o2 u hu, bd1_s, bd1_s]
        by_cases g3 : -1000 ≤ u ∧ u ≤ 1000
        · obtain ⟨q1, e1, hq1⟩ := l7_hold (show k < 12 by omega) hn (fit_qs f1) q (F := fu) (by omega)
          have e2 : fX4_at (F k).2.2.1 (Int32.ofInt x) (Int32.ofInt y) (Int32.ofInt u) = some (Int32.ofInt (qf_val (QF k) (x, y, u))) := x4_at f2 (x, y, u)
          have e3 : fX7_valueOf q1 (Int64.ofInt x) (Int64.ofInt y) (Int64.ofInt u) = some (Int64.ofInt (qf_val (QF k) (x, y, u))) := l7_val hq1 (x, y, u)
          rw [if_pos g3, if_pos z00, if_pos g3, if_neg n10, ek, if_pos (ix_ok (by omega) (by decide)), e1, e2, bd1_s, bd1_s, zi_wide hx, zi_wide hy, zi_wide hu, e3, bd1_s, zi_narrow]
          exact ⟨_, _, rfl, rfl⟩
        · rw [if_neg g3, if_neg n10, if_neg g3, if_pos z00]
          exact ⟨_, _, rfl, rfl⟩
      · rw [if_neg g2, if_neg n10, if_neg g2, if_pos z00]
        exact ⟨_, _, rfl, rfl⟩
    · rw [if_neg g1, if_neg n10, if_neg g1, if_pos z00]
      exact ⟨_, _, rfl, rfl⟩
  · rw [if_neg g, if_neg n10, if_neg g, if_pos z00]
    exact ⟨_, _, rfl, rfl⟩
theorem S_taken {held p_ : Int32} {box : Nat → Int32} {F : Nat → FS} {forms prime : Int32} {num : Nat → Int32} {hc p : Nat} {QF : Nat → F6} (h : INVx held p_ box F forms prime num hc p QF) {k : Nat} (p0 p1 : Int32) (hk : okI p0 12 → p0.toNatClampNeg = k) (q ba : Nat → Int64) {fu : Nat} (hfu : 4000000000000 ≤ fu) : ∃ r q' ba', fX6_taken fu held (F k).2.2.2.1 p0 p1 = some r ∧ fX7_taken fu forms num q ba p0 p1 = some (r, q', ba') := by
  obtain ⟨h1, h2, h3, h4, h5, h6, h7, h8⟩ := h
  obtain ⟨z, hz, rfl⟩ := z_ex p0
  obtain ⟨y, hy, rfl⟩ := z_ex p1
  unfold fX6_taken fX7_taken
  have o1 : fX6_isOutside (Int32.ofInt y) 0 100 = some (if 0 ≤ y ∧ y ≤ 100 then 0 else 1) := x6_outL hy (a := 0) (b := 100) (by first | rfl | decide) (by first | rfl | decide) ⟨by omega, by omega⟩ ⟨by omega, by omega⟩
  have o2 : fX7_in (Int32.ofInt y).toInt64 0 100 = some (if 0 ≤ y ∧ y ≤ 100 then 1 else 0) := x7_inL hy (a := 0) (b := 100) (by first | rfl | decide) (by first | rfl | decide) ⟨by omega, by omega⟩ ⟨by omega, by omega⟩
  rw [h3, h6, x6_unk h1 hz, x7_isForm h1 hz, bd1_s, bd1_s]
  by_cases g : 0 ≤ z ∧ z < hc
  · obtain ⟨ek, hkc⟩ := kn g h1 hk
    obtain ⟨⟨f1, f2, f3, L, T, n, f4, f5, f6, f7, f8⟩, hn⟩ := h8 k hkc
    rw [if_pos g, if_pos z00, if_pos g, if_neg n10, o1, o2, bd1_s, bd1_s]
    by_cases g2 : 0 ≤ y ∧ y ≤ 100
    · obtain ⟨q1, e1, hq1⟩ := l7_hold (show k < 12 by omega) hn (fit_qs f1) q (F := fu) (by omega)
      obtain ⟨q2, b2, E, e2, hE, hq2, _, _, hw⟩ := l7_shorten (fit_pd f1) (fit_qB f1) hq1 ba (F := fu) (by omega)
      have hpE := qf_pd_trn (fit_pd f1) hE
      have hdE : qf_disc (qf_trn (QF k) E) = qf_disc (QF k) := by rw [qf_disc_trn, qf_gl_sq hE, Int.one_mul]
      obtain ⟨s1, s2, s3, s4, s5, s6⟩ := least_S (fit_pd f1) f4
      obtain ⟨c1, e3, hc1⟩ := x5_timesOf f6 s2 s1 (by rw [s3]; exact fit_D f1) g2 (F := fu) (by omega)
      obtain ⟨c2, e4, hc2⟩ := l7_takenNow hq2 hpE hw (by rw [hdE]; exact fit_D f1) g2.1 g2.2 (F := fu) (by omega)
      have hcc : c1 = c2 := by
        rw [← s6] at hc1
        exact cnt_eq (cnt_trn s5 hc1) (cnt_trn hE hc2)
      subst hcc
      rw [if_pos g2, if_pos z00, if_pos g2, if_neg n10, ek, if_pos (ix_ok (by omega) (by decide)), e1, e3, bd1_s, bd1_s, e2, bd2_s, e4, bd1_s]
      exact ⟨_, _, _, rfl, rfl⟩
    · rw [if_neg g2, if_neg n10, if_neg g2, if_pos z00]
      exact ⟨_, _, _, rfl, rfl⟩
  · rw [if_neg g, if_neg n10, if_neg g, if_pos z00]
    exact ⟨_, _, _, rfl, rfl⟩
abbrev O11 : Type := Option (Int32 × (Int32) × (Nat → Int64) × (Nat → Int64) × (Nat → Int64) × (Nat → Int64) × (Nat → Int64) × (Nat → Int64) × (Nat → Int32) × (Nat → Int64) × (Nat → Int64))
theorem sm_s (K : (Nat → Int64) → O11) (le : Nat → Int64) (n : Nat) {i : Nat} (hi : i < 6) (ot : Nat → Int64) : fX7_same_L26 K le (n + 1) (ix i) ot = fX7_same_L26 K le n (ix (i + 1)) (vp_updL ot i (le i)) := by
  rw [fX7_same_L26, if_neg (by rw [ix_6, ix_le (by decide) (by omega)]; omega), if_pos (ix_ok hi (by decide)), if_pos (ix_ok hi (by decide))]
  simp only [nm_eq, ix_nat (show i ≤ 2147483647 by omega)]
  rw [ix_1, ix_add]
theorem sm_c (K : (Nat → Int64) → O11) (le : Nat → Int64) (n : Nat) (ot : Nat → Int64) : fX7_same_L26 K le (n + 7) 0 ot = K (up3 (up3 ot 0 (le 0) (le 1) (le 2)) 3 (le 3) (le 4) (le 5)) := by
  rw [ix_0, sm_s K le _ (by decide), sm_s K le _ (by decide), sm_s K le _ (by decide), sm_s K le _ (by decide), sm_s K le _ (by decide), sm_s K le _ (by decide), fX7_same_L26, if_pos (by decide)]
  rfl
theorem se_0 {i : Nat} (hi : i < 6) (K : Int32 → O11) (ot le : Nat → Int64) (n : Nat) : fX7_same_L60 K ot le (n + 1) 0 (ix i) = fX7_same_L60 K ot le n 0 (ix (i + 1)) := by
  rw [fX7_same_L60, if_neg (by rw [ix_6, ix_le (by decide) (by omega)]; omega)]
  simp only [nm_eq, ↓reduceIte]
  rw [ix_1, ix_add]
theorem se_1 {i : Nat} (hi : i < 6) (K : Int32 → O11) (ot le : Nat → Int64) (n : Nat) : fX7_same_L60 K ot le (n + 1) 1 (ix i) = if ot i = le i then fX7_same_L60 K ot le n 1 (ix (i + 1)) else fX7_same_L60 K ot le n 0 (ix (i + 1)) := by
  rw [fX7_same_L60, if_neg (by rw [ix_6, ix_le (by decide) (by omega)]; omega)]
  dsimp only [nm_eq]
  rw [if_neg n10, if_pos (ix_ok hi (by decide)), if_pos (ix_ok hi (by decide)), ix_1, ix_add]
  simp only [ix_nat (show i ≤ 2147483647 by omega)]
theorem se_z (K : Int32 → O11) (ot le : Nat → Int64) : ∀ (m n i : Nat), i + m = 6 → m + 1 ≤ n → fX7_same_L60 K ot le n 0 (ix i) = K 0
  | 0, n, i, h1, h2 => by
    obtain ⟨n, rfl⟩ : ∃ m, n = m + 1 := ⟨n - 1, by omega⟩
    have e : i = 6 := by omega
    subst e
    rw [fX7_same_L60, if_pos (by decide)]
  | m + 1, n, i, h1, h2 => by
    obtain ⟨n, rfl⟩ : ∃ m, n = m + 1 := ⟨n - 1, by omega⟩
    rw [se_0 (by omega)]
    exact se_z K ot le m n (i + 1) (by omega) (by omega)
theorem l7_eq (K : Int32 → O11) {ot le : Nat → Int64} {Q L : F6} (hQ : al6 ot Q) (hL : al6 le L) (qQ : qs_ Q) (qL : qs_ L) (n : Nat) : fX7_same_L60 K ot le (n + 7) 1 0 = K (if Q = L then 1 else 0) := by
  obtain ⟨a0, a1, a2, a3, a4, a5⟩ := hQ
  obtain ⟨b0, b1, b2, b3, b4, b5⟩ := hL
  obtain ⟨c0, c1, c2, c3, c4, c5⟩ := qQ
  obtain ⟨d0, d1, d2, d3, d4, d5⟩ := qL
  have q0 : ot 0 = le 0 ↔ Q.1 = L.1 := by rw [a0, b0]; exact zl_eq ⟨by omega, by omega⟩ ⟨by omega, by omega⟩
  have q1 : ot 1 = le 1 ↔ Q.2.1 = L.2.1 := by rw [a1, b1]; exact zl_eq ⟨by omega, by omega⟩ ⟨by omega, by omega⟩
  have q2 : ot 2 = le 2 ↔ Q.2.2.1 = L.2.2.1 := by rw [a2, b2]; exact zl_eq ⟨by omega, by omega⟩ ⟨by omega, by omega⟩
  have q3 : ot 3 = le 3 ↔ Q.2.2.2.1 = L.2.2.2.1 := by rw [a3, b3]; exact zl_eq ⟨by omega, by omega⟩ ⟨by omega, by omega⟩
  have q4 : ot 4 = le 4 ↔ Q.2.2.2.2.1 = L.2.2.2.2.1 := by rw [a4, b4]; exact zl_eq ⟨by omega, by omega⟩ ⟨by omega, by omega⟩
  have q5 : ot 5 = le 5 ↔ Q.2.2.2.2.2 = L.2.2.2.2.2 := by rw [a5, b5]; exact zl_eq ⟨by omega, by omega⟩ ⟨by omega, by omega⟩
  rw [ix_0, se_1 (by decide)]
  by_cases g0 : Q.1 = L.1
  · rw [if_pos (q0.mpr g0), se_1 (by decide)]
    by_cases g1 : Q.2.1 = L.2.1
    · rw [if_pos (q1.mpr g1), se_1 (by decide)]
      by_cases g2 : Q.2.2.1 = L.2.2.1
      · rw [if_pos (q2.mpr g2), se_1 (by decide)]
        by_cases g3 : Q.2.2.2.1 = L.2.2.2.1
        · rw [if_pos (q3.mpr g3), se_1 (by decide)]
          by_cases g4 : Q.2.2.2.2.1 = L.2.2.2.2.1
          · rw [if_pos (q4.mpr g4), se_1 (by decide)]
            by_cases g5 : Q.2.2.2.2.2 = L.2.2.2.2.2
            · rw [if_pos (q5.mpr g5), fX7_same_L60, if_pos (by decide), if_pos (Prod.ext g0 (Prod.ext g1 (Prod.ext g2 (Prod.ext g3 (Prod.ext g4 g5)))))]
            · rw [if_neg (fun t => g5 (q5.mp t)), se_z K ot le 0 _ _ (by decide) (by omega), if_neg (fun t => g5 (by rw [t]))]; rfl
          · rw [if_neg (fun t => g4 (q4.mp t)), se_z K ot le 1 _ _ (by decide) (by omega), if_neg (fun t => g4 (by rw [t]))]; rfl
        · rw [if_neg (fun t => g3 (q3.mp t)), se_z K ot le 2 _ _ (by decide) (by omega), if_neg (fun t => g3 (by rw [t]))]; rfl
      · rw [if_neg (fun t => g2 (q2.mp t)), se_z K ot le 3 _ _ (by decide) (by omega), if_neg (fun t => g2 (by rw [t]))]; rfl
    · rw [if_neg (fun t => g1 (q1.mp t)), se_z K ot le 4 _ _ (by decide) (by omega), if_neg (fun t => g1 (by rw [t]))]; rfl
  · rw [if_neg (fun t => g0 (q0.mp t)), se_z K ot le 5 _ _ (by decide) (by omega), if_neg (fun t => g0 (by rw [t]))]; rfl
theorem S_same {held p_ : Int32} {box : Nat → Int32} {F : Nat → FS} {forms prime : Int32} {num : Nat → Int32} {hc p : Nat} {QF : Nat → F6} (h : INVx held p_ box F forms prime num hc p QF) {k j : Nat} (p0 p1 : Int32) (hk : okI p0 12 → p0.toNatClampNeg = k) (hj : okI p1 12 → p1.toNatClampNeg = j) (tn : Int32) (q ba le tb ro li : Nat → Int64) (sz : Nat → Int32) (tr ot : Nat → Int64) {fu : Nat} (hfu : 4000000000000 ≤ fu) : ∃ r tn' q' ba' le' tb' ro' li' sz' tr' ot', fX6_same fu held (F k).2.2.2.1 (F j).2.2.2.1 p0 p1 = some r ∧ fX7_same fu forms tn num q ba le tb ro li sz tr ot p0 p1 = some (r, tn', q', ba', le', tb', ro', li', sz', tr', ot') := by
  obtain ⟨h1, h2, h3, h4, h5, h6, h7, h8⟩ := h
  obtain ⟨z, hz, rfl⟩ := z_ex p0
  obtain ⟨y, hy, rfl⟩ := z_ex p1
  unfold fX6_same fX7_same
  rw [h3, h6, x6_unk h1 hz, x7_isForm h1 hz, bd1_s, bd1_s]
  dsimp only [nm_eq]
  by_cases g : 0 ≤ z ∧ z < hc
  · obtain ⟨ek, hkc⟩ := kn g h1 hk
    obtain ⟨⟨f1, f2, f3, L, T, n, f4, f5, f6, f7, f8⟩, hn⟩ := h8 k hkc
    rw [if_pos g, if_pos z00, if_pos g, if_neg n10, x6_unk h1 hy, x7_isForm h1 hy, bd1_s, bd1_s]
    by_cases g2 : 0 ≤ y ∧ y < hc
    · obtain ⟨ej, hjc⟩ := kn g2 h1 hj
      obtain ⟨⟨k1, k2, k3, M, V, m, k4, k5, k6, k7, k8⟩, hm⟩ := h8 j hjc
      obtain ⟨q1, ba1, le1, tb1, ro1, li1, sz1, tr1, e1, t1, _⟩ := l7_flo f1 f4 (by omega) hn q ba le tb ro li sz tr hfu
      obtain ⟨q2, ba2, le2, tb2, ro2, li2, sz2, tr2, e2, t2, _⟩ := l7_flo k1 k4 (by omega) hm q1 ba1 le1 tb1 ro1 li1 sz1 tr1 hfu
      obtain ⟨s1, s2, s3, _⟩ := least_S (fit_pd f1) f4
      obtain ⟨r1, r2, r3, _⟩ := least_S (fit_pd k1) k4
      have qL : qs_ L := qs_S s1 (by rw [s3]; exact fit_D f1)
      have qM : qs_ M := qs_S r1 (by rw [r3]; exact fit_D k1)
      have hot := al6_up ot le1 t1
      obtain ⟨f, hf⟩ : ∃ f, fu = f + 7 := ⟨fu - 7, by omega⟩
      rw [if_pos g2, if_pos z00, if_pos g2, if_neg n10, ek, ej, if_pos (ix_ok (by omega) (by decide)), if_pos (ix_ok (by omega) (by decide)), x4_alike f6 k6 (qs_l6 qL) (qs_l6 qM) (F := fu) (by omega), bd1_s, e1, bd9_s, hf, sm_c, ← hf, e2, bd9_s, hf, l7_eq _ hot t2 qL qM]
      by_cases gg : L = M
      · rw [if_pos gg, if_neg n10, if_neg n10]
        exact ⟨_, _, _, _, _, _, _, _, _, _, _, rfl, rfl⟩
      · rw [if_neg gg, if_pos z00, if_pos z00]
        exact ⟨_, _, _, _, _, _, _, _, _, _, _, rfl, rfl⟩
    · rw [if_neg g2, if_neg n10, if_neg g2, if_pos z00]
      exact ⟨_, _, _, _, _, _, _, _, _, _, _, rfl, rfl⟩
  · rw [if_neg g, if_neg n10, if_neg g, if_pos z00]
    exact ⟨_, _, _, _, _, _, _, _, _, _, _, rfl, rfl⟩
