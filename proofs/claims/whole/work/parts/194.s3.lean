/-! calls: form, set -/
theorem cpy6 {s t : Nat → Int32} {Q : F6} (h : a6 s Q) : a6 (va_cpy s t 0 0 6) Q := by
  obtain ⟨g0, g1, g2, g3, g4, g5⟩ := h
  exact ⟨g0, g1, g2, g3, g4, g5⟩
theorem cpy9 {s t : Nat → Int32} {M : T9} (h : a9 s M) : a9 (va_cpy s t 0 0 9) M := by
  obtain ⟨g0, g1, g2, g3, g4, g5, g6, g7, g8⟩ := h
  exact ⟨g0, g1, g2, g3, g4, g5, g6, g7, g8⟩
theorem x1_become {Q : F6} (hf : fitQ Q) {six box : Nat → Int32} (h : a6 six Q) (hb : bxA box) (fn fl fb s r wo im be br : Nat → Int32) {fu : Nat} (hfu : 4000000000000 ≤ fu) : ∃ L T n fn' fl' fb' s' r' wo' im' be' br', fX1_become fu fn fl fb six s r box wo im be br = some (Int32.ofInt (qf_disc Q), ix n, fn', fl', fb', 0, ix n, s', r', wo', im', be', br') ∧ a6 fn' Q ∧ qf_least Q L T n ∧ a6 fl' L ∧ a9 fb' T := by
  have h6 : a6 (va_cpy six fn 0 0 6) Q := cpy6 h
  have hpd := fit_pd hf
  obtain ⟨⟨a, b, c, d, e, f⟩, _, _⟩ := hf
  obtain ⟨t, s', r', wo', im', be', br', e1, L, T, n, g1, g2, g3, g4, g5⟩ := x3_settle hpd (by omega) (by omega) (by omega) (by unfold qf_sum; omega) h6 hb s r wo im be br (F := fu) (by omega)
  subst g3
  refine ⟨L, T, n, va_cpy six fn 0 0 6, va_cpy be' fl 0 0 6, va_cpy br' fb 0 0 9, s', r', wo', im', be', br', ?_, h6, g1, cpy6 g4, cpy9 g5⟩
  unfold fX1_become
  dsimp only [nm_eq]
  rw [x4_disc h6, bd1_s, e1, bd7_s]
theorem x6_give (gv : Nat → Int32) (a b c d e f : Int) : ∃ gv', fX6_give gv (Int32.ofInt a) (Int32.ofInt b) (Int32.ofInt c) (Int32.ofInt d) (Int32.ofInt e) (Int32.ofInt f) = some gv' ∧ a6 gv' (a, b, c, d, e, f) := by
  refine ⟨_, rfl, ?_⟩
  refine ⟨?_, ?_, ?_, ?_, ?_, ?_⟩ <;> simp [upd]
theorem l7_become {k : Nat} (hk : k < 12) (num : Nat → Int32) (a b c d e f : Int) : ∃ num', fX7_become num (ix k) (Int32.ofInt a) (Int32.ofInt b) (Int32.ofInt c) (Int32.ofInt d) (Int32.ofInt e) (Int32.ofInt f) = some num' ∧ a6 (fun i => num' (6 * k + i)) (a, b, c, d, e, f) ∧ ∀ j, j ≠ k → ∀ Q, a6 (fun i => num (6 * j + i)) Q → a6 (fun i => num' (6 * j + i)) Q := by
  have i0 : (6 : Int32) * ix k = ix (6 * k) := by rw [ix_6, ix_mul]
  have i1 : (6 : Int32) * ix k + 1 = ix (6 * k + 1) := by rw [i0, ix_1, ix_add]
  have i2 : (6 : Int32) * ix k + 2 = ix (6 * k + 2) := by rw [i0, ix_2, ix_add]
  have i3 : (6 : Int32) * ix k + 3 = ix (6 * k + 3) := by rw [i0, ix_3, ix_add]
  have i4 : (6 : Int32) * ix k + 4 = ix (6 * k + 4) := by rw [i0, show (4 : Int32) = ix 4 from rfl, ix_add]
  have i5 : (6 : Int32) * ix k + 5 = ix (6 * k + 5) := by rw [i0, show (5 : Int32) = ix 5 from rfl, ix_add]
  refine ⟨upd (upd (upd (upd (upd (upd num (6 * k) (Int32.ofInt a)) (6 * k + 1) (Int32.ofInt b)) (6 * k + 2) (Int32.ofInt c)) (6 * k + 3) (Int32.ofInt d)) (6 * k + 4) (Int32.ofInt e)) (6 * k + 5) (Int32.ofInt f), ?_, ?_, ?_⟩
  · unfold fX7_become
    simp only [nm_eq, i1, i2, i3, i4, i5]
    simp only [i0]
    rw [if_pos (ix_ok (by omega) (by decide)), if_pos (ix_ok (by omega) (by decide)), if_pos (ix_ok (by omega) (by decide)), if_pos (ix_ok (by omega) (by decide)), if_pos (ix_ok (by omega) (by decide)), if_pos (ix_ok (by omega) (by decide))]
    simp only [ix_nat (show 6 * k ≤ 2147483647 by omega), ix_nat (show 6 * k + 1 ≤ 2147483647 by omega), ix_nat (show 6 * k + 2 ≤ 2147483647 by omega), ix_nat (show 6 * k + 3 ≤ 2147483647 by omega), ix_nat (show 6 * k + 4 ≤ 2147483647 by omega), ix_nat (show 6 * k + 5 ≤ 2147483647 by omega)]
  · refine ⟨?_, ?_, ?_, ?_, ?_, ?_⟩ <;> simp [upd]
  · intro j hj Q hQ
    have e : ∀ i, i < 6 → upd (upd (upd (upd (upd (upd num (6 * k) (Int32.ofInt a)) (6 * k + 1) (Int32.ofInt b)) (6 * k + 2) (Int32.ofInt c)) (6 * k + 3) (Int32.ofInt d)) (6 * k + 4) (Int32.ofInt e)) (6 * k + 5) (Int32.ofInt f) (6 * j + i) = num (6 * j + i) := by
      intro i hi
      unfold upd
      rw [if_neg (by omega), if_neg (by omega), if_neg (by omega), if_neg (by omega), if_neg (by omega), if_neg (by omega)]
    obtain ⟨g0, g1, g2, g3, g4, g5⟩ := hQ
    exact ⟨(e 0 (by decide)).trans g0, (e 1 (by decide)).trans g1, (e 2 (by decide)).trans g2, (e 3 (by decide)).trans g3, (e 4 (by decide)).trans g4, (e 5 (by decide)).trans g5⟩
theorem l6_rI {a b c d e f : Int} (ha : rI a) (hb : rI b) (hc : rI c) (hd : rI d) (he : rI e) (hf : rI f) : ∀ x ∈ l6 (a, b, c, d, e, f), rI x := by
  intro x hx
  simp only [l6, List.mem_cons, List.not_mem_nil, or_false] at hx
  rcases hx with g | g | g | g | g | g <;> subst g <;> assumption
theorem bd13_s {a1 a2 a3 a4 a5 a6 a7 a8 a9 a10 a11 a12 a13 R : Type} (x1 : a1) (x2 : a2) (x3 : a3) (x4 : a4) (x5 : a5) (x6 : a6) (x7 : a7) (x8 : a8) (x9 : a9) (x10 : a10) (x11 : a11) (x12 : a12) (x13 : a13) (f : a1 → a2 → a3 → a4 → a5 → a6 → a7 → a8 → a9 → a10 → a11 → a12 → a13 → Option R) : bd13 (some (x1, x2, x3, x4, x5, x6, x7, x8, x9, x10, x11, x12, x13)) f = f x1 x2 x3 x4 x5 x6 x7 x8 x9 x10 x11 x12 x13 := rfl
theorem S_form {held p_ : Int32} {box : Nat → Int32} {F : Nat → FS} {forms prime : Int32} {num : Nat → Int32} {hc p : Nat} {QF : Nat → F6} (h : INVx held p_ box F forms prime num hc p QF) {k : Nat} (p0 p1 p2 p3 p4 p5 : Int32) (hk : okI held 12 → held.toNatClampNeg = k) (gv : Nat → Int32) (ti : Int32) (s r wo im be br : Nat → Int32) {fu : Nat} (hfu : 4000000000000 ≤ fu) : ∃ a held' gv' fd ft fn fl fb yb ti' s' r' wo' im' be' br' forms' num' hc' QF', fX6_form fu held gv (F k).1 (F k).2.1 (F k).2.2.1 (F k).2.2.2.1 (F k).2.2.2.2.1 (F k).2.2.2.2.2.2.2.1 ti s r box wo im be br p0 p1 p2 p3 p4 p5 = some (a, held', gv', fd, ft, fn, fl, fb, yb, ti', s', r', wo', im', be', br') ∧ fX7_form forms num p0 p1 p2 p3 p4 p5 = some (a, forms', num') ∧ INVx held' p_ box (va_up F k (fd, ft, fn, fl, fb, (F k).2.2.2.2.2.1, (F k).2.2.2.2.2.2.1, yb, (F k).2.2.2.2.2.2.2.2.1, (F k).2.2.2.2.2.2.2.2.2.1, (F k).2.2.2.2.2.2.2.2.2.2)) forms' prime num' hc' p QF' := by
  have hI := h
  obtain ⟨h1, h2, h3, h4, h5, h6, h7, h8⟩ := h
  obtain ⟨z0, r0, rfl⟩ := z_ex p0
  obtain ⟨z1, r1, rfl⟩ := z_ex p1
  obtain ⟨z2, r2, rfl⟩ := z_ex p2
  obtain ⟨z3, r3, rfl⟩ := z_ex p3
  obtain ⟨z4, r4, rfl⟩ := z_ex p4
  obtain ⟨z5, r5, rfl⟩ := z_ex p5
  obtain ⟨gv', eg, hg⟩ := x6_give gv z0 z1 z2 z3 z4 z5
  have hr := l6_rI r0 r1 r2 r3 r4 r5
  have e12 : (12 : Int32) = ix 12 := rfl
  have same : INVx held p_ box (va_up F k (F k)) forms prime num hc p QF := by rw [va_up_id]; exact hI
  have i1 := x4_isForm hg hr (F := fu) (by omega)
  have i2 := l7_fits hr
  unfold fX6_form fX7_form
  rw [eg, bd1_s]
  rcases i1 with ⟨q1, i1⟩ | ⟨q1, i1⟩
  · rcases i2 with ⟨_, i2⟩ | ⟨q2, i2⟩
    rotate_left
    · exact absurd q1 q2
    have i2' : fX7_fits (Int32.ofInt z0) (Int32.ofInt z1) (Int32.ofInt z2) (Int32.ofInt z3) (Int32.ofInt z4) (Int32.ofInt z5) = some 1 := i2
    rw [i1, i2', bd1_s, bd1_s, if_neg n10, if_neg n10, h3, h6, e12]
    by_cases g : hc < 12
    · rw [h3] at hk
      have hkk := hk (ix_ok g (by decide))
      rw [ix_nat (by omega)] at hkk
      subst hkk
      obtain ⟨L, T, n, fn', fl', fb', s', r', wo', im', be', br', e1, t1, t2, t3, t4⟩ := x1_become q1 hg h5 (F hc).2.2.1 (F hc).2.2.2.1 (F hc).2.2.2.2.1 s r wo im be br hfu
      obtain ⟨num', e2, u1, u2⟩ := l7_become g num z0 z1 z2 z3 z4 z5
      rw [if_pos ((ix_lt (by omega) (by decide)).mpr g), if_pos (ix_ok g (by decide)), e1, bd13_s, if_neg (by rw [ix_eq (by omega) (by decide)]; omega), e2, bd1_s]
      dsimp only [nm_eq]
      refine ⟨_, _, gv', _, _, fn', fl', fb', _, _, s', r', wo', im', be', br', _, num', hc + 1, va_up QF hc (z0, z1, z2, z3, z4, z5), rfl, rfl, by omega, h2, by rw [ix_1, ix_add], h4, h5, by rw [ix_1, ix_add], h7, ?_⟩
      intro j hj
      unfold va_up
      by_cases gj : j = hc
      · subst gj
        rw [if_pos rfl, if_pos rfl]
        exact ⟨⟨q1, t1, rfl, L, T, n, t2, rfl, t3, t4, Or.inl rfl⟩, u1⟩
      · rw [if_neg gj, if_neg gj]
        have hj8 := h8 j (by omega)
        exact ⟨hj8.1, u2 j gj _ hj8.2⟩
    · have hc12 : hc = 12 := by omega
      rw [if_neg (fun t => g ((ix_lt (by omega) (by decide)).mp t)), if_pos (by rw [hc12])]
      rw [h3, h6] at same
      exact ⟨_, _, gv', _, _, _, _, _, _, _, _, _, _, _, _, _, _, _, hc, QF, rfl, rfl, same⟩
  · rcases i2 with ⟨q2, i2⟩ | ⟨_, i2⟩
    · exact absurd q2 q1
    have i2' : fX7_fits (Int32.ofInt z0) (Int32.ofInt z1) (Int32.ofInt z2) (Int32.ofInt z3) (Int32.ofInt z4) (Int32.ofInt z5) = some 0 := i2
    rw [i1, i2', bd1_s, bd1_s, if_pos z00, if_pos z00]
    exact ⟨_, _, gv', _, _, _, _, _, _, _, _, _, _, _, _, _, _, _, hc, QF, rfl, rfl, same⟩
theorem S_set {held p_ : Int32} {box : Nat → Int32} {F : Nat → FS} {forms prime : Int32} {num : Nat → Int32} {hc p : Nat} {QF : Nat → F6} (h : INVx held p_ box F forms prime num hc p QF) {k : Nat} (pk p0 p1 p2 p3 p4 p5 : Int32) (hk : okI pk 12 → pk.toNatClampNeg = k) (gv : Nat → Int32) (ti : Int32) (s r wo im be br : Nat → Int32) {fu : Nat} (hfu : 4000000000000 ≤ fu) : ∃ a gv' fd ft fn fl fb yb ti' s' r' wo' im' be' br' num' QF', fX6_set fu held gv (F k).1 (F k).2.1 (F k).2.2.1 (F k).2.2.2.1 (F k).2.2.2.2.1 (F k).2.2.2.2.2.2.2.1 ti s r box wo im be br pk p0 p1 p2 p3 p4 p5 = some (a, gv', fd, ft, fn, fl, fb, yb, ti', s', r', wo', im', be', br') ∧ fX7_set forms num pk p0 p1 p2 p3 p4 p5 = some (a, num') ∧ INVx held p_ box (va_up F k (fd, ft, fn, fl, fb, (F k).2.2.2.2.2.1, (F k).2.2.2.2.2.2.1, yb, (F k).2.2.2.2.2.2.2.2.1, (F k).2.2.2.2.2.2.2.2.2.1, (F k).2.2.2.2.2.2.2.2.2.2)) forms prime num' hc p QF' := by
  have hI := h
  obtain ⟨h1, h2, h3, h4, h5, h6, h7, h8⟩ := h
  obtain ⟨z, hz, rfl⟩ := z_ex pk
  obtain ⟨z0, r0, rfl⟩ := z_ex p0
  obtain ⟨z1, r1, rfl⟩ := z_ex p1
  obtain ⟨z2, r2, rfl⟩ := z_ex p2
  obtain ⟨z3, r3, rfl⟩ := z_ex p3
  obtain ⟨z4, r4, rfl⟩ := z_ex p4
  obtain ⟨z5, r5, rfl⟩ := z_ex p5
  obtain ⟨gv', eg, hg⟩ := x6_give gv z0 z1 z2 z3 z4 z5
  have hr := l6_rI r0 r1 r2 r3 r4 r5
  have same : INVx held p_ box (va_up F k (F k)) forms prime num hc p QF := by rw [va_up_id]; exact hI
  have i1 := x4_isForm hg hr (F := fu) (by omega)
  have i2 := l7_fits hr
  subst h3; subst h6
  unfold fX6_set fX7_set
  rw [x6_unk h1 hz, x7_isForm h1 hz, bd1_s, bd1_s]
  by_cases g : 0 ≤ z ∧ z < hc
  · obtain ⟨ek, hkc⟩ := kn g h1 hk
    rw [if_pos g, if_pos z00, if_pos g, if_neg n10, eg, bd1_s]
    rcases i1 with ⟨q1, i1⟩ | ⟨q1, i1⟩
    · rcases i2 with ⟨_, i2⟩ | ⟨q2, i2⟩
      rotate_left
      · exact absurd q1 q2
      have i2' : fX7_fits (Int32.ofInt z0) (Int32.ofInt z1) (Int32.ofInt z2) (Int32.ofInt z3) (Int32.ofInt z4) (Int32.ofInt z5) = some 1 := i2
      obtain ⟨L, T, n, fn', fl', fb', s', r', wo', im', be', br', e1, t1, t2, t3, t4⟩ := x1_become q1 hg h5 (F k).2.2.1 (F k).2.2.2.1 (F k).2.2.2.2.1 s r wo im be br hfu
      obtain ⟨num', e2, u1, u2⟩ := l7_become (show k < 12 by omega) num z0 z1 z2 z3 z4 z5
      rw [i1, i2', bd1_s, bd1_s, if_neg n10, if_neg n10, ek, if_pos (ix_ok (by omega) (by decide)), e1, bd13_s, e2, bd1_s]
      refine ⟨_, gv', _, _, fn', fl', fb', _, _, s', r', wo', im', be', br', num', va_up QF k (z0, z1, z2, z3, z4, z5), rfl, rfl, h1, h2, rfl, h4, h5, rfl, h7, ?_⟩
      intro j hj
      unfold va_up
      by_cases gj : j = k
      · subst gj
        rw [if_pos rfl, if_pos rfl]
        exact ⟨⟨q1, t1, rfl, L, T, n, t2, rfl, t3, t4, Or.inl rfl⟩, u1⟩
      · rw [if_neg gj, if_neg gj]
        have hj8 := h8 j (by omega)
        exact ⟨hj8.1, u2 j gj _ hj8.2⟩
    · rcases i2 with ⟨q2, i2⟩ | ⟨_, i2⟩
      · exact absurd q2 q1
      have i2' : fX7_fits (Int32.ofInt z0) (Int32.ofInt z1) (Int32.ofInt z2) (Int32.ofInt z3) (Int32.ofInt z4) (Int32.ofInt z5) = some 0 := i2
      rw [i1, i2', bd1_s, bd1_s, if_pos z00, if_pos z00]
      exact ⟨_, gv', _, _, _, _, _, _, _, _, _, _, _, _, _, _, QF, rfl, rfl, same⟩
  · rw [if_neg g, if_neg n10, if_neg g, if_pos z00]
    exact ⟨_, _, _, _, _, _, _, _, _, _, _, _, _, _, _, _, QF, rfl, rfl, same⟩
