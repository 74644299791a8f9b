/-! the call turns: both -/
theorem S_turns {held p_ : Int32} {box : Nat → Int32} {F : Nat → FS} {forms prime : Int32} {num : Nat → Int32} {hc p : Nat} {QF : Nat → F6} (h : INVx held p_ box F forms prime num hc p QF) {k j : Nat} (p0 p1 p2 p3 p4 p5 p6 p7 p8 p9 p10 : Int32) (hk : okI p0 12 → p0.toNatClampNeg = k) (hj : okI p1 12 → p1.toNatClampNeg = j) (gr td : Nat → Int32) (q : Nat → Int64) {fu : Nat} (hfu : 4000000000000 ≤ fu) : ∃ a gr' td' q', fX6_turns fu held gr td (F k).2.2.1 (F j).2.2.1 p0 p1 p2 p3 p4 p5 p6 p7 p8 p9 p10 = some (a, gr', td') ∧ fX7_turns fu forms num q p0 p1 p2 p3 p4 p5 p6 p7 p8 p9 p10 = some (a, q') := by
  obtain ⟨h1, h2, h3, h4, h5, h6, h7, h8⟩ := h
  obtain ⟨z, hz, rfl⟩ := z_ex p0
  obtain ⟨y, hy, rfl⟩ := z_ex p1
  obtain ⟨x0, r0, rfl⟩ := z_ex p2
  obtain ⟨x1, r1, rfl⟩ := z_ex p3
  obtain ⟨x2, r2, rfl⟩ := z_ex p4
  obtain ⟨x3, r3, rfl⟩ := z_ex p5
  obtain ⟨x4, r4, rfl⟩ := z_ex p6
  obtain ⟨x5, r5, rfl⟩ := z_ex p7
  obtain ⟨x6, r6, rfl⟩ := z_ex p8
  obtain ⟨x7, r7, rfl⟩ := z_ex p9
  obtain ⟨x8, r8, rfl⟩ := z_ex p10
  subst h3; subst h4; subst h6; subst h7
  by_cases g : 0 ≤ z ∧ z < hc
  rotate_left
  · refine ⟨-100001, gr, td, q, ?_, ?_⟩
    · unfold fX6_turns
      rw [x6_unk h1 hz, bd1_s]
      dsimp only [nm_eq]
      rw [if_neg g, if_neg n10]
    · unfold fX7_turns
      rw [x7_isForm h1 hz, bd1_s, if_neg g]
      rfl
  by_cases gy : 0 ≤ y ∧ y < hc
  rotate_left
  · refine ⟨-100001, gr, td, q, ?_, ?_⟩
    · unfold fX6_turns
      rw [x6_unk h1 hz, bd1_s]
      dsimp only [nm_eq]
      rw [if_pos g, if_pos z00, x6_unk h1 hy, bd1_s, if_neg gy, if_neg n10]
    · unfold fX7_turns
      rw [x7_isForm h1 hz, bd1_s, if_pos g, x7_isForm h1 hy, if_neg gy]
      rfl
  obtain ⟨ek, hkc⟩ := kn g h1 hk
  obtain ⟨ej, hjc⟩ := kn gy h1 hj
  obtain ⟨⟨f1, f2, _⟩, hn⟩ := h8 k hkc
  obtain ⟨⟨m1, m2, _⟩, hm⟩ := h8 j hjc
  rcases t6_out h1 hz hy g gy gr td (F k).2.2.1 (F j).2.2.1 r0 r1 r2 r3 r4 r5 r6 r7 r8 (fu := fu) (by omega) with ⟨gr', ho, e⟩ | ⟨gr', hr, h9, e⟩
  · exact ⟨_, _, _, _, e, t7_out h1 hz hy g gy num q r0 r1 r2 r3 r4 r5 r6 r7 r8 fu ho⟩
  · have hdr := t7_det hr
    have ha0 : av gr' 0 (x0, x1, x2) := ⟨h9.1, h9.2.1, h9.2.2.1⟩
    have ha1 : av gr' 3 (x3, x4, x5) := ⟨h9.2.2.2.1, h9.2.2.2.2.1, h9.2.2.2.2.2.1⟩
    have ha2 : av gr' 6 (x6, x7, x8) := ⟨h9.2.2.2.2.2.2.1, h9.2.2.2.2.2.2.2.1, h9.2.2.2.2.2.2.2.2⟩
    have et : fX6_areTable 9 gr' 0 3 6 = some (if qf_det ((x0, x1, x2), (x3, x4, x5), (x6, x7, x8)) = 1 ∨ qf_det ((x0, x1, x2), (x3, x4, x5), (x6, x7, x8)) = -1 then 1 else 0) := x6_areTable (i := 0) (j := 3) (k := 6) ha0 ha1 ha2 (by decide) (by decide) (by decide) (by decide) hdr
    rcases t7_in h1 hz hy g gy num q r0 r1 r2 r3 r4 r5 r6 r7 r8 fu (by omega) hr hkc hjc ek ej f1 m1 hn hm with ⟨d, e2⟩ | ⟨d, q', hq'⟩
    · refine ⟨0, gr', td, q, ?_, e2⟩
      rw [e, et, bd1_s, if_neg d, if_pos z00]
    · obtain ⟨td', e3, ht⟩ := x4_turn f2 h9 td (F := fu) (by omega)
      obtain ⟨g0, g1, g2, g3, g4, g5, g6', g7, g8⟩ := hr
      have u0 := v60_3 g0 g1 g2
      have u1 := v60_3 g3 g4 g5
      have u2 := v60_3 g6' g7 g8
      have b0 := qs_val (fit_qs f1) u0
      have b1 := qs_val (fit_qs f1) u1
      have b2 := qs_val (fit_qs f1) u2
      have b3 := qs_tch (fit_qs f1) u1 u2
      have b4 := qs_tch (fit_qs f1) u0 u2
      have b5 := qs_tch (fit_qs f1) u0 u1
      have c0 : rI (qf_val (QF k) (x0, x1, x2)) := ⟨by omega, by omega⟩
      have c1 : rI (qf_val (QF k) (x3, x4, x5)) := ⟨by omega, by omega⟩
      have c2 : rI (qf_val (QF k) (x6, x7, x8)) := ⟨by omega, by omega⟩
      have c3 : rI (qf_tch (QF k) (x3, x4, x5) (x6, x7, x8)) := ⟨by omega, by omega⟩
      have c4 : rI (qf_tch (QF k) (x0, x1, x2) (x6, x7, x8)) := ⟨by omega, by omega⟩
      have c5 : rI (qf_tch (QF k) (x0, x1, x2) (x3, x4, x5)) := ⟨by omega, by omega⟩
      have hl : ∀ x ∈ l6 (qf_trn (QF k) ((x0, x1, x2), (x3, x4, x5), (x6, x7, x8))), rI x := l6_rI c0 c1 c2 c3 c4 c5
      have e4 := x4_alike ht m2 hl (qs_l6 (fit_qs m1)) (F := fu) (by omega)
      rw [e, et, bd1_s, if_pos d, if_neg n10, ek, if_pos (ix_ok (by omega) (by decide)), e3, bd1_s, ej, if_pos (ix_ok (by omega) (by decide)), e4, bd1_s]
      rw [ek, ej] at hq'
      rcases hq' with ⟨t1, t2⟩ | ⟨t1, t2⟩
      · rw [if_pos t1, if_neg n10]
        exact ⟨_, _, _, _, rfl, t2⟩
      · rw [if_neg t1, if_pos z00]
        exact ⟨_, _, _, _, rfl, t2⟩
