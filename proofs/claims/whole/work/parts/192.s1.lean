/-! calls: what both sides hold between calls; the calls that only read -/
def FOK (f : FS) (Q : F6) : Prop := fitQ Q ∧ a6 f.2.2.1 Q ∧ f.1 = Int32.ofInt (qf_disc Q) ∧ ∃ L T n, qf_least Q L T n ∧ f.2.1 = ix n ∧ a6 f.2.2.2.1 L ∧ a9 f.2.2.2.2.1 T ∧ FI (qf_disc Q) L n f.2.2.2.2.2.1 f.2.2.2.2.2.2.1 f.2.2.2.2.2.2.2.1 f.2.2.2.2.2.2.2.2.1 f.2.2.2.2.2.2.2.2.2.1 f.2.2.2.2.2.2.2.2.2.2
def INVx (held p_ : Int32) (box : Nat → Int32) (F : Nat → FS) (forms prime : Int32) (num : Nat → Int32) (hc p : Nat) (QF : Nat → F6) : Prop := hc ≤ 12 ∧ (p = 3 ∨ p = 5 ∨ p = 7) ∧ held = ix hc ∧ p_ = ix p ∧ bxA box ∧ forms = ix hc ∧ prime = ix p ∧ ∀ j, j < hc → FOK (F j) (QF j) ∧ a6 (fun i => num (6 * j + i)) (QF j)
theorem n10 : ¬ (1 : Int32) = 0 := by decide
theorem z00 : (0 : Int32) = 0 := rfl
theorem x6_outL {z a b : Int} {lo hi : Int32} (hz : rI z) (ea : lo = Int32.ofInt a) (eb : hi = Int32.ofInt b) (ha : rI a) (hb : rI b) : fX6_isOutside (Int32.ofInt z) lo hi = some (if a ≤ z ∧ z ≤ b then 0 else 1) := by
  rw [ea, eb]
  exact x6_out hz ha hb
theorem x7_inL {z a b : Int} {lo hi : Int64} (hz : rI z) (ea : lo = Int64.ofInt a) (eb : hi = Int64.ofInt b) (ha : rI a) (hb : rI b) : fX7_in (Int32.ofInt z).toInt64 lo hi = some (if a ≤ z ∧ z ≤ b then 1 else 0) := by
  rw [ea, eb]
  exact x7_inI hz ha hb
theorem va_up_id {α : Type} (F : Nat → α) (k : Nat) : va_up F k (F k) = F := by
  funext j
  unfold va_up
  by_cases g : j = k
  · rw [if_pos g, g]
  · rw [if_neg g]
theorem INVx.put {held p_ : Int32} {box : Nat → Int32} {F : Nat → FS} {forms prime : Int32} {num : Nat → Int32} {hc p : Nat} {QF : Nat → F6} (h : INVx held p_ box F forms prime num hc p QF) {k : Nat} {f : FS} (hf : k < hc → FOK f (QF k)) : INVx held p_ box (va_up F k f) forms prime num hc p QF := by
  obtain ⟨h1, h2, h3, h4, h5, h6, h7, h8⟩ := h
  refine ⟨h1, h2, h3, h4, h5, h6, h7, fun j hj => ⟨?_, (h8 j hj).2⟩⟩
  unfold va_up
  by_cases g : j = k
  · rw [if_pos g, g]
    exact hf (by omega)
  · rw [if_neg g]
    exact (h8 j hj).1
theorem kn {z : Int} {hc k : Nat} (h : 0 ≤ z ∧ z < hc) (hc12 : hc ≤ 12) (hk : okI (Int32.ofInt z) 12 → (Int32.ofInt z).toNatClampNeg = k) : Int32.ofInt z = ix k ∧ k < hc := by
  have e := z_ix h.1
  rw [e] at hk ⊢
  have h1 := hk (ix_ok (by omega) (by decide))
  rw [ix_nat (by omega)] at h1
  rw [h1]
  exact ⟨rfl, by omega⟩
theorem S_count {held p_ : Int32} {box : Nat → Int32} {F : Nat → FS} {forms prime : Int32} {num : Nat → Int32} {hc p : Nat} {QF : Nat → F6} (h : INVx held p_ box F forms prime num hc p QF) : ∃ ro, fX6_count held = some ro ∧ fX7_count forms = some ro := by
  obtain ⟨h1, h2, h3, h4, h5, h6, h7, h8⟩ := h
  exact ⟨ix hc, by rw [h3]; rfl, by rw [h6]; rfl⟩
theorem S_drop {held p_ : Int32} {box : Nat → Int32} {F : Nat → FS} {forms prime : Int32} {num : Nat → Int32} {hc p : Nat} {QF : Nat → F6} (h : INVx held p_ box F forms prime num hc p QF) : ∃ ro o hc', fX6_drop held = some (ro, o) ∧ fX7_drop forms = some (ro, o) ∧ INVx o p_ box F o prime num hc' p QF := by
  obtain ⟨h1, h2, h3, h4, h5, h6, h7, h8⟩ := h
  unfold fX6_drop fX7_drop
  dsimp only [nm_eq]
  rw [h3, h6]
  by_cases g : hc = 0
  · subst g
    exact ⟨_, _, 0, rfl, rfl, by omega, h2, rfl, h4, h5, rfl, h7, h8⟩
  · have e : ¬ ix hc = 0 := by rw [ix_0, ix_eq (by omega) (by omega)]; exact g
    have e2 : ix hc - 1 = ix (hc - 1) := by
      obtain ⟨m, hm⟩ : ∃ m, hc = m + 1 := ⟨hc - 1, by omega⟩
      rw [hm, ← ix_add m 1, ← ix_1, Int32.add_sub_cancel, Nat.add_sub_cancel]
    rw [if_neg e, e2]
    exact ⟨_, _, hc - 1, rfl, rfl, by omega, h2, rfl, h4, h5, rfl, h7, fun j hj => h8 j (by omega)⟩
theorem S_prime {held p_ : Int32} {box : Nat → Int32} {F : Nat → FS} {forms prime : Int32} {num : Nat → Int32} {hc p : Nat} {QF : Nat → F6} (h : INVx held p_ box F forms prime num hc p QF) (p0 : Int32) : ∃ ro o p', fX6_prime p_ p0 = some (ro, o) ∧ fX7_prime prime p0 = some (ro, o) ∧ INVx held o box F forms o num hc p' QF := by
  obtain ⟨h1, h2, h3, h4, h5, h6, h7, h8⟩ := h
  unfold fX6_prime fX7_prime
  dsimp only [nm_eq]
  rw [h4, h7]
  by_cases g3 : p0 = 3
  · rw [if_pos g3]
    exact ⟨_, _, 3, rfl, rfl, h1, Or.inl rfl, h3, g3, h5, h6, g3, h8⟩
  · rw [if_neg g3]
    by_cases g5 : p0 = 5
    · rw [if_pos g5]
      exact ⟨_, _, 5, rfl, rfl, h1, Or.inr (Or.inl rfl), h3, g5, h5, h6, g5, h8⟩
    · rw [if_neg g5]
      by_cases g7 : p0 = 7
      · rw [if_pos g7]
        exact ⟨_, _, 7, rfl, rfl, h1, Or.inr (Or.inr rfl), h3, g7, h5, h6, g7, h8⟩
      · rw [if_neg g7]
        exact ⟨_, _, p, rfl, rfl, h1, h2, h3, rfl, h5, h6, rfl, h8⟩
/-- the reference finds a held form's least form -/
theorem l7_fl {Q : F6} (hf : fitQ Q) {L : F6} {T : T9} {n : Nat} (hL : qf_least Q L T n) {q : Nat → Int64} (hq : al6 q Q) (ba le tb ro li : Nat → Int64) (sz : Nat → Int32) (tr : Nat → Int64) {fu : Nat} (hfu : 4000000000000 ≤ fu) : ∃ q' ba' le' tb' ro' li' sz' tr', fX7_findLeast fu q ba le tb ro li sz tr = some (ix n, q', ba', le', tb', ro', li', sz', tr') ∧ al6 le' L ∧ al9 tb' T := by
  obtain ⟨t, q', ba', le', tb', ro', li', sz', tr', e, L', T', n', g1, g2, g3, g4, g5⟩ := l7_findLeast (fit_pd hf) (fit_qB hf) (fit_D hf) hq ba le tb ro li sz tr (F := fu) (by omega)
  obtain ⟨u1, u2, u3⟩ := qf_least_eq hL g1
  subst u1; subst u2; subst u3; subst g3
  exact ⟨q', ba', le', tb', ro', li', sz', tr', e, g4, g5⟩
theorem l7_flo {Q : F6} (hf : fitQ Q) {L : F6} {T : T9} {n : Nat} (hL : qf_least Q L T n) {k : Nat} (hk : k < 12) {num : Nat → Int32} (hn : a6 (fun i => num (6 * k + i)) Q) (q ba le tb ro li : Nat → Int64) (sz : Nat → Int32) (tr : Nat → Int64) {fu : Nat} (hfu : 4000000000000 ≤ fu) : ∃ q' ba' le' tb' ro' li' sz' tr', fX7_findLeastOf fu num q ba le tb ro li sz tr (ix k) = some (ix n, q', ba', le', tb', ro', li', sz', tr') ∧ al6 le' L ∧ al9 tb' T := by
  obtain ⟨q1, e1, hq1⟩ := l7_hold hk hn (fit_qs hf) q (F := fu) (by omega)
  obtain ⟨q', ba', le', tb', ro', li', sz', tr', e, g1, g2⟩ := l7_fl hf hL hq1 ba le tb ro li sz tr hfu
  refine ⟨q', ba', le', tb', ro', li', sz', tr', ?_, g1, g2⟩
  unfold fX7_findLeastOf
  rw [e1, bd1_s, e, bd9_s]
theorem S_least {held p_ : Int32} {box : Nat → Int32} {F : Nat → FS} {forms prime : Int32} {num : Nat → Int32} {hc p : Nat} {QF : Nat → F6} (h : INVx held p_ box F forms prime num hc p QF) {k : Nat} (p0 : Int32) (hk : okI p0 12 → p0.toNatClampNeg = k) (tn : Int32) (q ba le tb ro li : Nat → Int64) (sz : Nat → Int32) (tr : Nat → Int64) {fu : Nat} (hfu : 4000000000000 ≤ fu) : ∃ r tn' q' ba' le' tb' ro' li' sz' tr', fX6_least held (F k).2.2.2.1 p0 = some r ∧ fX7_least fu forms tn num q ba le tb ro li sz tr p0 = some (r, tn', q', ba', le', tb', ro', li', sz', tr') := by
  obtain ⟨h1, h2, h3, h4, h5, h6, h7, h8⟩ := h
  obtain ⟨z, hz, rfl⟩ := z_ex p0
  unfold fX6_least fX7_least
  rw [h3, h6, x6_unk h1 hz, x7_isForm h1 hz, bd1_s, bd1_s]
  dsimp only [nm_eq]
  by_cases g : 0 ≤ z ∧ z < hc
  · obtain ⟨ek, hkc⟩ := kn g h1 hk
    obtain ⟨⟨f1, f2, f3, L, T, n, f4, f5, f6, f7, f8⟩, hn⟩ := h8 k hkc
    obtain ⟨q', ba', le', tb', ro', li', sz', tr', e, g1, g2⟩ := l7_flo f1 f4 (by omega) hn q ba le tb ro li sz tr hfu
    rw [if_pos g, if_pos z00, if_pos g, if_neg n10, ek, if_pos (ix_ok (by omega) (by decide)), e, bd9_s, g1.1, zi_narrow, f6.1]
    exact ⟨_, _, q', ba', le', tb', ro', li', sz', tr', rfl, rfl⟩
  · rw [if_neg g, if_neg n10, if_neg g, if_pos z00]
    exact ⟨_, _, _, _, _, _, _, _, _, _, rfl, rfl⟩
theorem S_told {held p_ : Int32} {box : Nat → Int32} {F : Nat → FS} {forms prime : Int32} {num : Nat → Int32} {hc p : Nat} {QF : Nat → F6} (h : INVx held p_ box F forms prime num hc p QF) {k : Nat} (p0 p1 : Int32) (hk : okI p0 12 → p0.toNatClampNeg = k) (tn : Int32) (q ba le tb ro li : Nat → Int64) (sz : Nat → Int32) (tr : Nat → Int64) {fu : Nat} (hfu : 4000000000000 ≤ fu) : ∃ r tn' q' ba' le' tb' ro' li' sz' tr', fX6_told held (F k).1 (F k).2.1 (F k).2.2.1 (F k).2.2.2.1 p0 p1 = some r ∧ fX7_told fu forms tn num q ba le tb ro li sz tr p0 p1 = some (r, tn', q', ba', le', tb', ro', li', sz', tr') := by
  obtain ⟨h1, h2, h3, h4, h5, h6, h7, h8⟩ := h
  obtain ⟨z, hz, rfl⟩ := z_ex p0
  obtain ⟨y, hy, rfl⟩ := z_ex p1
  unfold fX6_told fX7_told
  have o1 : fX6_isOutside (Int32.ofInt y) 0 13 = some (if 0 ≤ y ∧ y ≤ 13 then 0 else 1) := x6_outL hy (a := 0) (b := 13) (by first | rfl | decide) (by first | rfl | decide) ⟨by omega, by omega⟩ ⟨by omega, by omega⟩
  have o2 : fX7_in (Int32.ofInt y).toInt64 0 13 = some (if 0 ≤ y ∧ y ≤ 13 then 1 else 0) := x7_inL hy (a := 0) (b := 13) (by first | rfl | decide) (by first | rfl | decide) ⟨by omega, by omega⟩ ⟨by omega, by omega⟩
  rw [h3, h6, x6_unk h1 hz, x7_isForm h1 hz, bd1_s, bd1_s]
  by_cases g : 0 ≤ z ∧ z < hc
  · obtain ⟨ek, hkc⟩ := kn g h1 hk
    obtain ⟨⟨f1, f2, f3, L, T, n, f4, f5, f6, f7, f8⟩, hn⟩ := h8 k hkc
    rw [if_pos g, if_pos z00, if_pos g, if_neg n10, o1, o2, bd1_s, bd1_s]
    by_cases g2 : 0 ≤ y ∧ y ≤ 13
    · obtain ⟨q1, e1, hq1⟩ := l7_hold (show k < 12 by omega) hn (fit_qs f1) q (F := fu) (by omega)
      have ey := z_ix g2.1
      have hm : y.toNat ≤ 13 := by omega
      generalize y.toNat = m at ey hm
      have e7 : (7 : Int32) = ix 7 := rfl
      have e13 : (13 : Int32) = ix 13 := rfl
      rw [if_pos g2, if_pos z00, if_pos g2, if_neg n10, ek, ey, if_pos (ix_ok (by omega) (by decide)), e1, bd1_s, ix_6, e7, e13]
      dsimp only [nm_eq]
      by_cases m7 : 7 ≤ m
      · obtain ⟨q', ba', le', tb', ro', li', sz', tr', e, t1, t2⟩ := l7_fl f1 f4 hq1 ba le tb ro li sz tr hfu
        have esub : ix m - ix 7 = ix (m - 7) := by
          obtain ⟨i, hi⟩ : ∃ i, m = i + 7 := ⟨m - 7, by omega⟩
          rw [hi, ← ix_add i 7, Int32.add_sub_cancel, Nat.add_sub_cancel]
        rw [if_pos ((ix_le (by decide) (by omega)).mpr (by omega)), if_neg (by rw [ix_eq (by omega) (by decide)]; omega), if_pos ((ix_le (by decide) (by omega)).mpr m7), e, bd9_s]
        by_cases m13 : 13 ≤ m
        · rw [if_pos ((ix_le (by decide) (by omega)).mpr m13), if_pos ((ix_le (by decide) (by omega)).mpr m13), f5]
          exact ⟨_, _, q', ba', le', tb', ro', li', sz', tr', rfl, rfl⟩
        · rw [if_neg (fun t => m13 ((ix_le (by decide) (by omega)).mp t)), if_neg (fun t => m13 ((ix_le (by decide) (by omega)).mp t)), esub, if_pos (ix_ok (by omega) (by decide)), if_pos (ix_ok (by omega) (by decide)), ix_nat (by omega), a6_at f6 (by omega), al6_at t1 (by omega), zi_narrow]
          exact ⟨_, _, q', ba', le', tb', ro', li', sz', tr', rfl, rfl⟩
      · rw [if_neg (fun t => m7 ((ix_le (by decide) (by omega)).mp t))]
        by_cases m6 : 6 ≤ m
        · rw [if_pos ((ix_le (by decide) (by omega)).mpr m6), if_pos ((ix_le (by decide) (by omega)).mpr m6), if_pos (by rw [ix_eq (by omega) (by decide)]; omega), l7_disc hq1, bd1_s, zi_narrow, f3]
          exact ⟨_, _, _, _, _, _, _, _, _, _, rfl, rfl⟩
        · rw [if_neg (fun t => m6 ((ix_le (by decide) (by omega)).mp t)), if_neg (fun t => m6 ((ix_le (by decide) (by omega)).mp t)), if_pos (ix_ok (by omega) (by decide)), ix_mul, ix_add, if_pos (ix_ok (by omega) (by decide)), ix_nat (by omega), ix_nat (by omega), a6_at f2 (by omega)]
          have en : num (6 * k + m) = Int32.ofInt (g6 (QF k) m) := a6_at hn (i := m) (by omega)
          rw [en]
          exact ⟨_, _, _, _, _, _, _, _, _, _, rfl, rfl⟩
    · rw [if_neg g2, if_neg n10, if_neg g2, if_pos z00]
      exact ⟨_, _, _, _, _, _, _, _, _, _, rfl, rfl⟩
  · rw [if_neg g, if_neg n10, if_neg g, if_pos z00]
    exact ⟨_, _, _, _, _, _, _, _, _, _, rfl, rfl⟩
theorem S_table {held p_ : Int32} {box : Nat → Int32} {F : Nat → FS} {forms prime : Int32} {num : Nat → Int32} {hc p : Nat} {QF : Nat → F6} (h : INVx held p_ box F forms prime num hc p QF) {k : Nat} (p0 p1 : Int32) (hk : okI p0 12 → p0.toNatClampNeg = k) (tn : Int32) (q ba le tb ro li : Nat → Int64) (sz : Nat → Int32) (tr : Nat → Int64) {fu : Nat} (hfu : 4000000000000 ≤ fu) : ∃ r tn' q' ba' le' tb' ro' li' sz' tr', fX6_table held (F k).2.2.2.2.1 p0 p1 = some r ∧ fX7_table fu forms tn num q ba le tb ro li sz tr p0 p1 = some (r, tn', q', ba', le', tb', ro', li', sz', tr') := by
  obtain ⟨h1, h2, h3, h4, h5, h6, h7, h8⟩ := h
  obtain ⟨z, hz, rfl⟩ := z_ex p0
  obtain ⟨y, hy, rfl⟩ := z_ex p1
  unfold fX6_table fX7_table
  have o1 : fX6_isOutside (Int32.ofInt y) 0 8 = some (if 0 ≤ y ∧ y ≤ 8 then 0 else 1) := x6_outL hy (a := 0) (b := 8) (by first | rfl | decide) (by first | rfl | decide) ⟨by omega, by omega⟩ ⟨by omega, by omega⟩
  have o2 : fX7_in (Int32.ofInt y).toInt64 0 8 = some (if 0 ≤ y ∧ y ≤ 8 then 1 else 0) := x7_inL hy (a := 0) (b := 8) (by first | rfl | decide) (by first | rfl | decide) ⟨by omega, by omega⟩ ⟨by omega, by omega⟩
  rw [h3, h6, x6_unk h1 hz, x7_isForm h1 hz, bd1_s, bd1_s]
  by_cases g : 0 ≤ z ∧ z < hc
  · obtain ⟨ek, hkc⟩ := kn g h1 hk
    obtain ⟨⟨f1, f2, f3, L, T, n, f4, f5, f6, f7, f8⟩, hn⟩ := h8 k hkc
    rw [if_pos g, if_pos z00, if_pos g, if_neg n10, o1, o2, bd1_s, bd1_s]
    dsimp only [nm_eq]
    by_cases g2 : 0 ≤ y ∧ y ≤ 8
    · obtain ⟨q', ba', le', tb', ro', li', sz', tr', e, t1, t2⟩ := l7_flo f1 f4 (by omega) hn q ba le tb ro li sz tr hfu
      have ey := z_ix g2.1
      have hm : y.toNat ≤ 8 := by omega
      generalize y.toNat = m at ey hm
      rw [if_pos g2, if_pos z00, if_pos g2, if_neg n10, ek, ey, if_pos (ix_ok (by omega) (by decide)), if_pos (ix_ok (by omega) (by decide)), e, bd9_s, if_pos (ix_ok (by omega) (by decide)), ix_nat (by omega), a9_at f7 (by omega), al9_at t2 (by omega), zi_narrow]
      exact ⟨_, _, q', ba', le', tb', ro', li', sz', tr', rfl, rfl⟩
    · rw [if_neg g2, if_neg n10, if_neg g2, if_pos z00]
      exact ⟨_, _, _, _, _, _, _, _, _, _, rfl, rfl⟩
  · rw [if_neg g, if_neg n10, if_neg g, if_pos z00]
    exact ⟨_, _, _, _, _, _, _, _, _, _, rfl, rfl⟩
