/-! kin: the reference's findKin -/
abbrev O20 : Type := Option (Int32 × (Int32) × (Int32) × (Int32) × (Int32) × (Nat → Int64) × (Nat → Int64) × (Nat → Int64) × (Nat → Int64) × (Nat → Int64) × (Nat → Int64) × (Nat → Int32) × (Nat → Int64) × (Nat → Int64) × (Nat → Int64) × (Nat → Int64) × (Nat → Int64) × (Nat → Int64) × (Nat → Int32) × (Nat → Int32))
theorem bd15_s {a0 a1 a2 a3 a4 a5 a6 a7 a8 a9 a10 a11 a12 a13 a14 R : Type} (x0 : a0) (x1 : a1) (x2 : a2) (x3 : a3) (x4 : a4) (x5 : a5) (x6 : a6) (x7 : a7) (x8 : a8) (x9 : a9) (x10 : a10) (x11 : a11) (x12 : a12) (x13 : a13) (x14 : a14) (f : a0 → a1 → a2 → a3 → a4 → a5 → a6 → a7 → a8 → a9 → a10 → a11 → a12 → a13 → a14 → Option R) : bd15 (some (x0, x1, x2, x3, x4, x5, x6, x7, x8, x9, x10, x11, x12, x13, x14)) f = f x0 x1 x2 x3 x4 x5 x6 x7 x8 x9 x10 x11 x12 x13 x14 := rfl
theorem bd9_s {a0 a1 a2 a3 a4 a5 a6 a7 a8 R : Type} (x0 : a0) (x1 : a1) (x2 : a2) (x3 : a3) (x4 : a4) (x5 : a5) (x6 : a6) (x7 : a7) (x8 : a8) (f : a0 → a1 → a2 → a3 → a4 → a5 → a6 → a7 → a8 → Option R) : bd9 (some (x0, x1, x2, x3, x4, x5, x6, x7, x8)) f = f x0 x1 x2 x3 x4 x5 x6 x7 x8 := rfl
theorem kw_inc {kw : Nat → Int32} {wy : Nat → Nat → Nat} (h : ∀ i j, i < 16 → j < 16 → kw (16 * i + j) = ix (wy i j)) {fr b : Nat} (hfr : fr < 16) (hb : b < 16) : ∀ i j, i < 16 → j < 16 → upd kw (16 * fr + b) (kw (16 * fr + b) + 1) (16 * i + j) = ix (inc wy fr b i j) := by
  intro i j hi hj
  unfold upd inc
  by_cases g : i = fr ∧ j = b
  · rw [if_pos (by omega), if_pos g, h fr b hfr hb, ix_1, ix_add, g.1, g.2]
  · rw [if_neg (by omega), if_neg g, h i j hi hj]
theorem ix_nn {j : Nat} (h : j ≤ 1000) : (0 : Int32) ≤ ix j := by rw [ix_0, ix_le (by decide) (by omega)]; omega
theorem l7_step {D : Int} (hD : D ≤ 6912) {p : Nat} (hp : p = 3 ∨ p = 5 ∨ p = 7) (hdv : ¬ (p : Int) ∣ D) {K : KS} (hg : Kg D K) (ho : K.2.2 = false) {fr : Nat} {x : F6 × Nat} (hx : K.1[fr]? = some x) {i : Nat} (hi : i ≤ p) (tn : Int32) (lt : Int32) (lu : Int32) (kinds : Int32) (q : Nat → Int64) (ba : Nat → Int64) (le : Nat → Int64) (tb : Nat → Int64) (ro : Nat → Int64) (li : Nat → Int64) (sz : Nat → Int32) (tr : Nat → Int64) (ln : Nat → Int64) (mk : Nat → Int64) (tc : Nat → Int64) (md : Nat → Int64) (kf : Nat → Int64) (kt : Nat → Int32) (kw : Nat → Int32) (hr : RK K kinds kf kt kw) {F : Nat} (hF : 4000000000000 ≤ F) (R : (Int32) → (Int32) → (Int32) → (Int32) → (Nat → Int64) → (Nat → Int64) → (Nat → Int64) → (Nat → Int64) → (Nat → Int64) → (Nat → Int64) → (Nat → Int32) → (Nat → Int64) → (Nat → Int64) → (Nat → Int64) → (Nat → Int64) → (Nat → Int64) → (Nat → Int64) → (Nat → Int32) → (Nat → Int32) → O20) (n : Nat) : ((kadd p fr K i).2.2 = true ∧ ∃ tn' lt' lu' kinds' q' ba' le' tb' ro' li' sz' tr' ln' mk' tc' md' kf' kt' kw', fX7_findKin_L62 (ix p) R F (ix fr) (n + 1) (ix i) tn lt lu kinds q ba le tb ro li sz tr ln mk tc md kf kt kw = some (-100005, tn', lt', lu', kinds', q', ba', le', tb', ro', li', sz', tr', ln', mk', tc', md', kf', kt', kw')) ∨ ((kadd p fr K i).2.2 = false ∧ ∃ tn' lt' lu' kinds' q' ba' le' tb' ro' li' sz' tr' ln' mk' tc' md' kf' kt' kw', fX7_findKin_L62 (ix p) R F (ix fr) (n + 1) (ix i) tn lt lu kinds q ba le tb ro li sz tr ln mk tc md kf kt kw = fX7_findKin_L62 (ix p) R F (ix fr) n (ix (i + 1)) tn' lt' lu' kinds' q' ba' le' tb' ro' li' sz' tr' ln' mk' tc' md' kf' kt' kw' ∧ RK (kadd p fr K i) kinds' kf' kt' kw' ∧ Kg D (kadd p fr K i) ∧ ∃ z, (kadd p fr K i).1[fr]? = some z) := by
  obtain ⟨ms, wy, ov⟩ := K
  have ho' : ov = false := ho
  subst ho'
  have hg' := hg
  obtain ⟨g1, g2, g3, g4⟩ := hg
  obtain ⟨c1, c2, c3⟩ := hr
  dsimp only at g1 g2 g3 g4 c1 c2 c3 hx
  have hfr : fr < ms.length := (List.getElem?_eq_some_iff.mp hx).1
  have hxg := g3 x (List.mem_of_getElem? hx)
  have hqx : qs_ x.1 := qs_S hxg.1 (by rw [hxg.2.2.1]; exact hD)
  obtain ⟨q1, e1, hq1⟩ := l7_holdKind (k := fr) (by omega) (c2 fr x hx).1 q (show 100 ≤ F by omega)
  obtain ⟨tn1, lt1, lu1, q2, ba1, le1, tb1, ro1, li1, sz1, tr1, ln1, mk1, tc1, md1, e2, L, m, hN, em, hL⟩ := l7_nb hxg.2.1 hqx (by rw [hxg.2.2.1]; exact hD) hq1 hp hi (by rw [hxg.2.2.1]; exact hdv) ba le tb ro li sz tr ln mk tc md hF
  subst em
  have hLg := nbL_ex hxg.2.1 hqx hp hN hxg.2.2.1
  have hqL : qs_ L := qs_S hLg.1 (by rw [hLg.2.2.1]; exact hD)
  have e4 := l7_pl hg' hD (fun i x hx => (c2 i x hx).1) hL hqL (show 100 ≤ F by omega)
  dsimp only at e4
  have hk := kadd_of (p := p) (i := i) (K := (ms, wy, false)) rfl hx (nbL_of hN)
  have hkg := kad_g hg' hfr (y := (L, m)) hLg
  rw [hk]
  subst c1
  have hlast : ∃ z, (kad ms wy fr (L, m)).1[fr]? = some z := by
    rcases kad_len ms wy fr (L, m) with e | e
    · rw [e]; exact ⟨x, hx⟩
    · rw [e, List.getElem?_append_left hfr]; exact ⟨x, hx⟩
  have n0 : ¬ ix p < ix i := fun g => by have := (ix_lt (by omega) (by omega)).mp g; omega
  have e16 : (16 : Int32) = ix 16 := rfl
  unfold kad at hkg hlast ⊢
  dsimp only at hkg hlast ⊢
  cases hpl : plN ms L 0 with
  | some j =>
    have hj := plN_lt ms 0 j hpl
    rw [hpl] at hkg hlast e4
    have e4 : fX7_kindOfLeast F (ix ms.length) le1 kf = some (ix j) := e4
    dsimp only at hkg hlast ⊢
    rw [fX7_findKin_L62]
    simp only [nm_eq]
    rw [if_neg n0, e1, bd1_s, e2, bd15_s, e4, bd1_s]
    refine Or.inr ⟨by first | rfl | trivial, ix m, lt1, lu1, ix ms.length, q2, ba1, le1, tb1, ro1, li1, sz1, tr1, ln1, mk1, tc1, md1, kf, kt, upd kw (16 * fr + j) (kw (16 * fr + j) + 1), ?_, ⟨rfl, c2, kw_inc c3 (by omega) (by omega)⟩, hkg, hlast⟩
    rw [if_pos (ix_nn (by omega)), e16, ix_mul, ix_add, if_pos (ix_ok (by omega) (by decide)), if_pos (ix_ok (by omega) (by decide)), ix_nat (by omega), ix_1, ix_add]
  | none =>
    rw [hpl] at hkg hlast e4
    have e4 : fX7_kindOfLeast F (ix ms.length) le1 kf = some (-1) := e4
    dsimp only at hkg hlast ⊢
    obtain ⟨kf', kt', f1, f2⟩ := l7_addKind c2 g2 hL m (show 100 ≤ F by omega)
    rw [fX7_findKin_L62]
    simp only [nm_eq]
    rw [if_neg n0, e1, bd1_s, e2, bd15_s, e4, bd1_s]
    rw [if_neg (show ¬ (0 : Int32) ≤ -1 by decide), f1, bd3_s]
    by_cases gl : ms.length < 16
    · rw [if_pos gl] at hkg hlast ⊢
      refine Or.inr ⟨by first | rfl | trivial, ix m, lt1, lu1, ix (ms.length + 1), q2, ba1, le1, tb1, ro1, li1, sz1, tr1, ln1, mk1, tc1, md1, kf', kt', upd kw (16 * fr + ms.length) (kw (16 * fr + ms.length) + 1), ?_, ⟨?_, f2, kw_inc c3 (by omega) gl⟩, hkg, hlast⟩
      · rw [if_pos (by rw [e16, ix_le (by omega) (by decide)]; omega), e16, ix_mul, ix_add, if_pos (ix_ok (by omega) (by decide)), if_pos (ix_ok (by omega) (by decide)), ix_nat (by omega), ix_1, ix_add]
      · show ix (ms.length + 1) = ix (ms ++ [(L, m)]).length
        rw [List.length_append, List.length_singleton]
    · rw [if_neg gl] at hkg hlast ⊢
      refine Or.inl ⟨by first | rfl | trivial, ix m, lt1, lu1, ix (ms.length + 1), q2, ba1, le1, tb1, ro1, li1, sz1, tr1, ln1, mk1, tc1, md1, kf', kt', kw, ?_⟩
      rw [if_neg (by rw [e16, ix_le (by omega) (by decide)]; omega)]
theorem l7_L62 {D : Int} (hD : D ≤ 6912) {p : Nat} (hp : p = 3 ∨ p = 5 ∨ p = 7) (hdv : ¬ (p : Int) ∣ D) {fr : Nat} {F : Nat} (hF : 4000000000000 ≤ F) (R : (Int32) → (Int32) → (Int32) → (Int32) → (Nat → Int64) → (Nat → Int64) → (Nat → Int64) → (Nat → Int64) → (Nat → Int64) → (Nat → Int64) → (Nat → Int32) → (Nat → Int64) → (Nat → Int64) → (Nat → Int64) → (Nat → Int64) → (Nat → Int64) → (Nat → Int64) → (Nat → Int32) → (Nat → Int32) → O20) : ∀ (k n i : Nat) (K : KS) (tn : Int32) (lt : Int32) (lu : Int32) (kinds : Int32) (q : Nat → Int64) (ba : Nat → Int64) (le : Nat → Int64) (tb : Nat → Int64) (ro : Nat → Int64) (li : Nat → Int64) (sz : Nat → Int32) (tr : Nat → Int64) (ln : Nat → Int64) (mk : Nat → Int64) (tc : Nat → Int64) (md : Nat → Int64) (kf : Nat → Int64) (kt : Nat → Int32) (kw : Nat → Int32), i + k = p + 1 → k + 1 ≤ n → Kg D K → K.2.2 = false → (∃ z, K.1[fr]? = some z) → RK K kinds kf kt kw → ((kvis p fr k i K).2.2 = true ∧ ∃ tn' lt' lu' kinds' q' ba' le' tb' ro' li' sz' tr' ln' mk' tc' md' kf' kt' kw', fX7_findKin_L62 (ix p) R F (ix fr) n (ix i) tn lt lu kinds q ba le tb ro li sz tr ln mk tc md kf kt kw = some (-100005, tn', lt', lu', kinds', q', ba', le', tb', ro', li', sz', tr', ln', mk', tc', md', kf', kt', kw')) ∨ ((kvis p fr k i K).2.2 = false ∧ ∃ tn' lt' lu' kinds' q' ba' le' tb' ro' li' sz' tr' ln' mk' tc' md' kf' kt' kw', fX7_findKin_L62 (ix p) R F (ix fr) n (ix i) tn lt lu kinds q ba le tb ro li sz tr ln mk tc md kf kt kw = R tn' lt' lu' kinds' q' ba' le' tb' ro' li' sz' tr' ln' mk' tc' md' kf' kt' kw' ∧ RK (kvis p fr k i K) kinds' kf' kt' kw' ∧ Kg D (kvis p fr k i K)) := by
  intro k
  induction k with
  | zero =>
    intro n i K tn lt lu kinds q ba le tb ro li sz tr ln mk tc md kf kt kw e1 e2 hg ho hz hr
    obtain ⟨n, rfl⟩ : ∃ m, n = m + 1 := ⟨n - 1, by omega⟩
    refine Or.inr ⟨ho, tn, lt, lu, kinds, q, ba, le, tb, ro, li, sz, tr, ln, mk, tc, md, kf, kt, kw, ?_, hr, hg⟩
    rw [fX7_findKin_L62, if_pos ((ix_lt (by omega) (by omega)).mpr (by omega))]
  | succ k ih =>
    intro n i K tn lt lu kinds q ba le tb ro li sz tr ln mk tc md kf kt kw e1 e2 hg ho hz hr
    obtain ⟨n, rfl⟩ : ∃ m, n = m + 1 := ⟨n - 1, by omega⟩
    obtain ⟨x, hx⟩ := hz
    rw [kvis]
    rcases l7_step hD hp hdv hg ho hx (i := i) (by omega) tn lt lu kinds q ba le tb ro li sz tr ln mk tc md kf kt kw hr hF R n with ⟨h1, h2⟩ | ⟨h1, tn1, lt1, lu1, kinds1, q1, ba1, le1, tb1, ro1, li1, sz1, tr1, ln1, mk1, tc1, md1, kf1, kt1, kw1, f1, f2, f3, f4⟩
    · refine Or.inl ⟨?_, h2⟩
      rw [kvis_ov h1]
      exact h1
    · rw [f1]
      exact ih n (i + 1) (kadd p fr K i) tn1 lt1 lu1 kinds1 q1 ba1 le1 tb1 ro1 li1 sz1 tr1 ln1 mk1 tc1 md1 kf1 kt1 kw1 (by omega) (by omega) f3 h1 f4 f2
theorem l7_L52 {D : Int} (hD : D ≤ 6912) {p : Nat} (hp : p = 3 ∨ p = 5 ∨ p = 7) (hdv : ¬ (p : Int) ∣ D) {F : Nat} (hF : 4000000000000 ≤ F) : ∀ (k n fr : Nat) (K : KS) (tn : Int32) (lt : Int32) (lu : Int32) (kinds : Int32) (q : Nat → Int64) (ba : Nat → Int64) (le : Nat → Int64) (tb : Nat → Int64) (ro : Nat → Int64) (li : Nat → Int64) (sz : Nat → Int32) (tr : Nat → Int64) (ln : Nat → Int64) (mk : Nat → Int64) (tc : Nat → Int64) (md : Nat → Int64) (kf : Nat → Int64) (kt : Nat → Int32) (kw : Nat → Int32), fr + k = 16 → k + 1 ≤ n → Kg D K → K.2.2 = false → RK K kinds kf kt kw → ((krun p k fr K).2.2 = true ∧ ∃ tn' lt' lu' kinds' q' ba' le' tb' ro' li' sz' tr' ln' mk' tc' md' kf' kt' kw', fX7_findKin_L52 (ix p) F n (ix fr) tn lt lu kinds q ba le tb ro li sz tr ln mk tc md kf kt kw = some (-100005, tn', lt', lu', kinds', q', ba', le', tb', ro', li', sz', tr', ln', mk', tc', md', kf', kt', kw')) ∨ ((krun p k fr K).2.2 = false ∧ ∃ tn' lt' lu' kinds' q' ba' le' tb' ro' li' sz' tr' ln' mk' tc' md' kf' kt' kw', fX7_findKin_L52 (ix p) F n (ix fr) tn lt lu kinds q ba le tb ro li sz tr ln mk tc md kf kt kw = some (kinds', tn', lt', lu', kinds', q', ba', le', tb', ro', li', sz', tr', ln', mk', tc', md', kf', kt', kw') ∧ RK (krun p k fr K) kinds' kf' kt' kw' ∧ Kg D (krun p k fr K)) := by
  intro k
  induction k with
  | zero =>
    intro n fr K tn lt lu kinds q ba le tb ro li sz tr ln mk tc md kf kt kw e1 e2 hg ho hr
    obtain ⟨n, rfl⟩ : ∃ m, n = m + 1 := ⟨n - 1, by omega⟩
    have hl := hg.2.1
    refine Or.inr ⟨ho, tn, lt, lu, kinds, q, ba, le, tb, ro, li, sz, tr, ln, mk, tc, md, kf, kt, kw, ?_, hr, hg⟩
    rw [fX7_findKin_L52, if_pos (by rw [hr.1, ix_le (by omega) (by omega)]; omega)]
  | succ k ih =>
    intro n fr K tn lt lu kinds q ba le tb ro li sz tr ln mk tc md kf kt kw e1 e2 hg ho hr
    obtain ⟨n, rfl⟩ : ∃ m, n = m + 1 := ⟨n - 1, by omega⟩
    have hl := hg.2.1
    rw [krun, fX7_findKin_L52]
    by_cases g1 : K.1.length ≤ fr
    · rw [if_pos g1]
      refine Or.inr ⟨ho, tn, lt, lu, kinds, q, ba, le, tb, ro, li, sz, tr, ln, mk, tc, md, kf, kt, kw, ?_, hr, hg⟩
      rw [if_pos (by rw [hr.1, ix_le (by omega) (by omega)]; exact g1)]
    · rw [if_neg g1, if_neg (by rw [ho]; decide), if_neg (by rw [hr.1, ix_le (by omega) (by omega)]; exact g1)]
      simp only [nm_eq]
      have hx : K.1[fr]? = some K.1[fr] := List.getElem?_eq_getElem (by omega)
      rcases l7_L62 hD hp hdv (fr := fr) hF (fun tn lt lu kinds q ba le tb ro li sz tr ln mk tc md kf kt kw => fX7_findKin_L52 (ix p) F n (ix fr + 1) tn lt lu kinds q ba le tb ro li sz tr ln mk tc md kf kt kw) (p + 1) F 0 K tn lt lu kinds q ba le tb ro li sz tr ln mk tc md kf kt kw (by omega) (by omega) hg ho ⟨_, hx⟩ hr with ⟨h1, tn1, lt1, lu1, kinds1, q1, ba1, le1, tb1, ro1, li1, sz1, tr1, ln1, mk1, tc1, md1, kf1, kt1, kw1, h2⟩ | ⟨h1, tn1, lt1, lu1, kinds1, q1, ba1, le1, tb1, ro1, li1, sz1, tr1, ln1, mk1, tc1, md1, kf1, kt1, kw1, f1, f2, f3⟩
      · refine Or.inl ⟨?_, tn1, lt1, lu1, kinds1, q1, ba1, le1, tb1, ro1, li1, sz1, tr1, ln1, mk1, tc1, md1, kf1, kt1, kw1, ?_⟩
        · cases k with
          | zero => exact h1
          | succ k =>
            rw [krun]
            by_cases g2 : (kvis p fr (p + 1) 0 K).1.length ≤ fr + 1
            · rw [if_pos g2]; exact h1
            · rw [if_neg g2, if_pos h1]; exact h1
        · rw [← ix_0] at h2
          exact h2
      · rw [← ix_0] at f1
        rw [f1, ix_1, ix_add]
        exact ih n (fr + 1) (kvis p fr (p + 1) 0 K) tn1 lt1 lu1 kinds1 q1 ba1 le1 tb1 ro1 li1 sz1 tr1 ln1 mk1 tc1 md1 kf1 kt1 kw1 (by omega) (by omega) f3 h1 f2
theorem l7_L30 (R : (Nat → Int32) → O20) : ∀ (k n j : Nat) (kw : Nat → Int32), j + k = 272 → k + 1 ≤ n → (∀ c, c < j → kw c = 0) → ∃ kw', fX7_findKin_L30 R n (ix j) kw = R kw' ∧ ∀ c, c < 272 → kw' c = 0 := by
  have e2 : (272 : Int32) = ix 272 := rfl
  intro k
  induction k with
  | zero =>
    intro n j kw h1 h2 h
    obtain ⟨n, rfl⟩ : ∃ m, n = m + 1 := ⟨n - 1, by omega⟩
    have e : j = 272 := by omega
    subst e
    exact ⟨kw, by rw [fX7_findKin_L30, if_pos (by decide)], h⟩
  | succ k ih =>
    intro n j kw h1 h2 h
    obtain ⟨n, rfl⟩ : ∃ m, n = m + 1 := ⟨n - 1, by omega⟩
    obtain ⟨kw', f1, f2⟩ := ih n (j + 1) (upd kw j 0) (by omega) (by omega) (by
      intro c hc
      unfold upd
      by_cases g : c = j
      · rw [if_pos g]
      · rw [if_neg g]; exact h c (by omega))
    refine ⟨kw', ?_, f2⟩
    rw [fX7_findKin_L30, if_neg (by rw [e2, ix_le (by decide) (by omega)]; omega), if_pos (ix_ok (by omega) (by decide))]
    simp only [nm_eq]
    rw [ix_nat (by omega), ix_1, ix_add]
    exact f1
theorem l7_findKin {Q : F6} (hQ : qf_pd Q) (hq : qs_ Q) (hB : qB Q) (hD : qf_disc Q ≤ 6912) {L : F6} {T : T9} {n : Nat} (hL : qf_least Q L T n) {p : Nat} (hp : p = 3 ∨ p = 5 ∨ p = 7) {k : Nat} (hk : k < 12) {num : Nat → Int32} (hn : a6 (fun j => num (6 * k + j)) Q) (tn : Int32) (lt : Int32) (lu : Int32) (kinds : Int32) (q : Nat → Int64) (ba : Nat → Int64) (le : Nat → Int64) (tb : Nat → Int64) (ro : Nat → Int64) (li : Nat → Int64) (sz : Nat → Int32) (tr : Nat → Int64) (ln : Nat → Int64) (mk : Nat → Int64) (tc : Nat → Int64) (md : Nat → Int64) (kf : Nat → Int64) (kt : Nat → Int32) (kw : Nat → Int32) {F : Nat} (hF : 4000000000000 ≤ F) : ∃ ans tn' lt' lu' kinds' q' ba' le' tb' ro' li' sz' tr' ln' mk' tc' md' kf' kt' kw', fX7_findKin F (ix p) tn lt lu kinds num q ba le tb ro li sz tr ln mk tc md kf kt kw (ix k) = some (ans, tn', lt', lu', kinds', q', ba', le', tb', ro', li', sz', tr', ln', mk', tc', md', kf', kt', kw') ∧ ((p : Int) ∣ qf_disc Q → ans = -100003) ∧ (¬ (p : Int) ∣ qf_disc Q → ans = kA (kinOf p L n) ∧ ((kinOf p L n).2.2 = false → RK (kinOf p L n) kinds' kf' kt' kw' ∧ Kg (qf_disc Q) (kinOf p L n))) := by
  have hD0 : 0 < qf_disc Q := hQ.2.2
  obtain ⟨q1, e1, hq1⟩ := l7_hold hk hn hq q (show 100 ≤ F by omega)
  unfold fX7_findKin
  rw [e1, bd1_s, l7_divides hq1 ⟨by omega, hD⟩ hp, bd1_s]
  by_cases g : (p : Int) ∣ qf_disc Q
  · rw [if_pos g, if_neg (by decide)]
    exact ⟨_, tn, lt, lu, kinds, q1, ba, le, tb, ro, li, sz, tr, ln, mk, tc, md, kf, kt, kw, rfl, fun _ => rfl, fun h => absurd g h⟩
  · rw [if_neg g, if_pos rfl]
    obtain ⟨tn1, q2, ba1, le1, tb1, ro1, li1, sz1, tr1, e2, L', T', n', h1, h2, h3, h4, h5⟩ := l7_findLeast hQ hB hD hq1 ba le tb ro li sz tr hF
    obtain ⟨u1, u2, u3⟩ := qf_least_eq hL h1
    subst u1; subst u3
    subst h3
    rw [e2, bd9_s]
    obtain ⟨s1, s2, s3, _⟩ := least_S hQ hL
    have hS : qr_S L ∧ qf_pd L ∧ qf_disc L = qf_disc Q ∧ n ∣ 48 ∧ 0 < n := ⟨s1, s2, s3, least_48 hQ hL⟩
    obtain ⟨kf1, kt1, f1, f2⟩ := l7_addKind (ms := []) (kf := kf) (kt := kt) (by intro i x hx; simp at hx) (by decide) h4 n (show 100 ≤ F by omega)
    have f1' : fX7_addKind F (ix n) 0 le1 kf kt = some (ix 1, kf1, kt1) := f1
    rw [f1', bd3_s]
    simp only [nm_eq]
    obtain ⟨kw1, f3, f4⟩ := l7_L30 (fun kw_ => fX7_findKin_L52 (ix p) F F 0 (ix n) lt lu (ix 1) q2 ba1 le1 tb1 ro1 li1 sz1 tr1 ln mk tc md kf1 kt1 kw_) 272 F 0 kw (by omega) (by omega) (by intro c hc; omega)
    rw [← ix_0] at f3
    rw [f3]
    have hg : Kg (qf_disc Q) ([(L, n)], fun _ _ => 0, false) := by
      refine ⟨by simp, by simp, ?_, fun _ _ _ => rfl⟩
      intro x hx
      have e : x = (L, n) := by simpa using hx
      rw [e]
      exact hS
    have hr : RK ([(L, n)], fun _ _ => 0, false) (ix 1) kf1 kt1 kw1 := by
      refine ⟨rfl, f2, ?_⟩
      intro i j hi hj
      exact f4 _ (by omega)
    rcases l7_L52 hD hp g hF 16 F 0 ([(L, n)], fun _ _ => 0, false) (ix n) lt lu (ix 1) q2 ba1 le1 tb1 ro1 li1 sz1 tr1 ln mk tc md kf1 kt1 kw1 (by omega) (by omega) hg rfl hr with ⟨g1, tn2, lt2, lu2, kinds2, q2, ba2, le2, tb2, ro2, li2, sz2, tr2, ln2, mk2, tc2, md2, kf2, kt2, kw2, g2⟩ | ⟨g1, tn2, lt2, lu2, kinds2, q2, ba2, le2, tb2, ro2, li2, sz2, tr2, ln2, mk2, tc2, md2, kf2, kt2, kw2, g2, g3, g4⟩
    · have g1' : (kinOf p L n).2.2 = true := g1
      rw [← ix_0] at g2
      refine ⟨-100005, tn2, lt2, lu2, kinds2, q2, ba2, le2, tb2, ro2, li2, sz2, tr2, ln2, mk2, tc2, md2, kf2, kt2, kw2, g2, fun h => absurd h g, fun _ => ⟨?_, fun h => ?_⟩⟩
      · unfold kA
        rw [if_pos g1']
      · rw [g1'] at h; cases h
    · have g1' : (kinOf p L n).2.2 = false := g1
      rw [← ix_0] at g2
      refine ⟨_, tn2, lt2, lu2, kinds2, q2, ba2, le2, tb2, ro2, li2, sz2, tr2, ln2, mk2, tc2, md2, kf2, kt2, kw2, g2, fun h => absurd h g, fun _ => ⟨?_, fun _ => ⟨g3, g4⟩⟩⟩
      unfold kA
      rw [if_neg (by rw [g1']; decide)]
      exact g3.1
