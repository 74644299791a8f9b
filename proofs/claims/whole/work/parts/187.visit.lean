/-! kin: the class's visit -/
theorem kadd_of {p fr i : Nat} {K : KS} {x : F6 × Nat} (ho : K.2.2 = false) (hx : K.1[fr]? = some x) {y : F6 × Nat} (hy : nbL x.1 p i = y) : kadd p fr K i = kad K.1 K.2.1 fr y := by
  unfold kadd
  rw [if_neg (by rw [ho]; decide), hx, ← hy]
theorem kadd_ov {p fr i : Nat} {K : KS} (ho : K.2.2 = true) : kadd p fr K i = K := by
  unfold kadd
  rw [if_pos ho]
theorem kvis_ov {p fr : Nat} {K : KS} (ho : K.2.2 = true) : ∀ k i, kvis p fr k i K = K
  | 0, i => rfl
  | k + 1, i => by rw [kvis, kadd_ov ho, kvis_ov ho]
theorem bd2_s {α β δ : Type} (x : α) (y : β) (f : α → β → Option δ) : bd2 (some (x, y)) f = f x y := rfl
theorem bd5_s {a b c d e R : Type} (x1 : a) (x2 : b) (x3 : c) (x4 : d) (x5 : e) (f : a → b → c → d → e → Option R) : bd5 (some (x1, x2, x3, x4, x5)) f = f x1 x2 x3 x4 x5 := rfl
theorem bd7_s {a b c d e g h R : Type} (x1 : a) (x2 : b) (x3 : c) (x4 : d) (x5 : e) (x6 : g) (x7 : h) (f : a → b → c → d → e → g → h → Option R) : bd7 (some (x1, x2, x3, x4, x5, x6, x7)) f = f x1 x2 x3 x4 x5 x6 x7 := rfl
theorem x0_step {D : Int} (hD : D ≤ 6912) {p : Nat} (hp : p = 3 ∨ p = 5 ∨ p = 7) (hdv : ¬ (p : Int) ∣ D) {K : KS} (hg : Kg D K) (ho : K.2.2 = false) {fr : Nat} {x : F6 × Nat} (hx : K.1[fr]? = some x) {six all box : Nat → Int32} (hs : a6 six x.1) (hall : ∀ (m : Nat) (v : V3), m < 8 → (lns x.1 p)[m]? = some v → av all (3 * m) v) (hbx : bxA box) {i : Nat} (hi : i ≤ p) (found : Int32) {size many : Int32} {tu : Nat → Int32} {mem path : Nat → Nat → Int32} (hc : CK K size many tu mem path) (lt lu : Int32) (w b c : Nat → Int32) (ti : Int32) (s r wo im be br : Nat → Int32) {F : Nat} (hF : 1000000 ≤ F) (n : Nat) : ∃ size' many' tu' lt' lu' w' b' c' ti' s' r' wo' im' be' br' mem' path', fX0_visit_L17 found (ix p) six all (ix p) F box (ix fr) (n + 1) (ix i) size many tu lt lu w b c ti s r wo im be br mem path = fX0_visit_L17 found (ix p) six all (ix p) F box (ix fr) n (ix (i + 1)) size' many' tu' lt' lu' w' b' c' ti' s' r' wo' im' be' br' mem' path' ∧ CK (kadd p fr K i) size' many' tu' mem' path' ∧ Kg D (kadd p fr K i) ∧ ∃ z, (kadd p fr K i).1[fr]? = some z ∧ z.1 = x.1 := by
  obtain ⟨ms, wy, ov⟩ := K
  have ho' : ov = false := ho
  subst ho'
  have hg' := hg
  obtain ⟨g1, g2, g3, g4⟩ := hg
  obtain ⟨c1, c2, c3, c4⟩ := hc
  dsimp only at g1 g2 g3 g4 c1 c2 c3 c4 hx
  have hfr : fr < ms.length := (List.getElem?_eq_some_iff.mp hx).1
  have hxg := g3 x (List.mem_of_getElem? hx)
  have hqx : qs_ x.1 := qs_S hxg.1 (by rw [hxg.2.2.1]; exact hD)
  obtain ⟨lt', lu', w', b', c', s', r', wo', im', be', br', L, m, e1, e2, e3, hN, hL⟩ := x2_nb hxg.2.1 hqx hp hi (by rw [hxg.2.2.1]; exact hdv) hs hall hbx w b c s r wo im be br hF
  have hLg := nbL_ex hxg.2.1 hqx hp hN hxg.2.2.1
  have hqL : qs_ L := qs_S hLg.1 (by rw [hLg.2.2.1]; exact hD)
  have e4 := x0_pl hg' hD (fun i x hx => (c3 i x hx).1) hL hqL (show 100 ≤ F by omega)
  dsimp only at e4
  have hk := kadd_of (p := p) (i := i) (K := (ms, wy, false)) rfl hx (nbL_of hN)
  have hkg := kad_g hg' hfr (y := (L, m)) hLg
  rw [hk]
  subst c1
  have c2' : many = 0 := c2
  subst c2'
  have hlast : ∃ z, (kad ms wy fr (L, m)).1[fr]? = some z ∧ z.1 = x.1 := by
    rcases kad_len ms wy fr (L, m) with e | e
    · rw [e]; exact ⟨x, hx, rfl⟩
    · rw [e, List.getElem?_append_left hfr]; exact ⟨x, hx, rfl⟩
  have n0 : ¬ ix p < ix i := fun g => by have := (ix_lt (by omega) (by omega)).mp g; omega
  unfold kad at hkg hlast ⊢
  dsimp only at hkg hlast ⊢
  cases hpl : plN ms L 0 with
  | some j =>
    have hj := plN_lt ms 0 j hpl
    rw [hpl] at hkg hlast e4
    have e4 : fX0_placeOf F (ix ms.length) be' mem = some (ix j) := e4
    dsimp only at hkg hlast ⊢
    refine ⟨ix ms.length, 0, tu, lt', lu', w', b', c', ix m, s', r', wo', im', be', br', mem, va_up path fr (upd (path fr) j (path fr j + 1)), ?_, ⟨rfl, rfl, c3, path_inc c4 hfr (by omega)⟩, hkg, hlast⟩
    rw [fX0_visit_L17]
    simp only [nm_eq]
    rw [if_neg n0, if_pos trivial, e1, bd3_s, e2, bd2_s, e3, bd7_s, e4, bd1_s, if_neg (ix_ne1 (show j ≤ 1000 by omega)), if_neg (ix_ne1 (show j ≤ 1000 by omega)), if_pos (ix_ok (by omega) (by decide)), if_pos (ix_ok (by omega) (by decide)), if_pos (ix_ok (by omega) (by decide)), ix_nat (show fr ≤ 2147483647 by omega), ix_nat (show j ≤ 2147483647 by omega), ix_1, ix_add]
  | none =>
    rw [hpl] at hkg hlast e4
    have e4 : fX0_placeOf F (ix ms.length) be' mem = some (-1) := e4
    dsimp only at hkg hlast ⊢
    rw [fX0_visit_L17]
    simp only [nm_eq]
    rw [if_neg n0, if_pos trivial, e1, bd3_s, e2, bd2_s, e3, bd7_s, e4, bd1_s, if_pos rfl]
    by_cases gl : ms.length < 16
    · rw [if_pos gl] at hkg hlast ⊢
      obtain ⟨tu', mem', path', f1, f2, f3, f4⟩ := x0_wel (K := (ms, wy, false)) (path := path) c3 gl hL m (show 100 ≤ F by omega)
      dsimp only at f1 f2 f3 f4
      have c4' : ∀ i j, i < (ms ++ [(L, m)]).length → j < 16 → path' i j = ix (wy i j) := by
        intro i j hi hj
        rw [List.length_append, List.length_singleton] at hi
        by_cases g : i = ms.length
        · subst g
          rw [f4 j hj, g4 _ _ (Nat.le_refl _)]
          rfl
        · rw [f3 i g]
          exact c4 i j (by omega) hj
      refine ⟨ix (ms.length + 1), 0, tu', lt', lu', w', b', c', ix m, s', r', wo', im', be', br', mem', va_up path' fr (upd (path' fr) ms.length (path' fr ms.length + 1)), ?_, ⟨?_, rfl, f2, path_inc c4' (by rw [List.length_append, List.length_singleton]; omega) gl⟩, hkg, hlast⟩
      · rw [f1, bd5_s, if_neg (ix_ne1 (show ms.length ≤ 1000 by omega)), if_pos (ix_ok (by omega) (by decide)), if_pos (ix_ok (by omega) (by decide)), if_pos (ix_ok (by omega) (by decide)), ix_nat (show fr ≤ 2147483647 by omega), ix_nat (show ms.length ≤ 2147483647 by omega), ix_1, ix_add]
      · show ix (ms.length + 1) = ix (ms ++ [(L, m)]).length
        rw [List.length_append, List.length_singleton]
    · rw [if_neg gl] at hkg hlast ⊢
      have hl16 : ms.length = 16 := by omega
      refine ⟨ix 16, 1, tu, lt', lu', w', b', c', ix m, s', r', wo', im', be', br', mem, path, ?_, ⟨?_, rfl, c3, c4⟩, hkg, hlast⟩
      · rw [hl16, x0_full, bd5_s, if_pos rfl, ix_1, ix_add]
      · show ix 16 = ix ms.length
        rw [hl16]
theorem x0_L17 {D : Int} (hD : D ≤ 6912) {p : Nat} (hp : p = 3 ∨ p = 5 ∨ p = 7) (hdv : ¬ (p : Int) ∣ D) {fr : Nat} {Q : F6} {six all box : Nat → Int32} (hs : a6 six Q) (hall : ∀ (m : Nat) (v : V3), m < 8 → (lns Q p)[m]? = some v → av all (3 * m) v) (hbx : bxA box) (found : Int32) {F : Nat} (hF : 1000000 ≤ F) : ∀ (k n i : Nat) (K : KS) (size many : Int32) (tu : Nat → Int32) (mem path : Nat → Nat → Int32) (lt lu : Int32) (w b c : Nat → Int32) (ti : Int32) (s r wo im be br : Nat → Int32), i + k = p + 1 → k + 1 ≤ n → Kg D K → (∃ z, K.1[fr]? = some z ∧ z.1 = Q) → CK K size many tu mem path → ∃ size' many' tu' lt' lu' w' b' c' ti' s' r' wo' im' be' br' mem' path', fX0_visit_L17 found (ix p) six all (ix p) F box (ix fr) n (ix i) size many tu lt lu w b c ti s r wo im be br mem path = some (size', many', tu', found, ix p, lt', lu', six, all, w', b', c', ti', s', r', wo', im', be', br', mem', path') ∧ CK (kvis p fr k i K) size' many' tu' mem' path' ∧ Kg D (kvis p fr k i K) := by
  intro k
  induction k with
  | zero =>
    intro n i K size many tu mem path lt lu w b c ti s r wo im be br e1 e2 hg hz hc
    obtain ⟨n, rfl⟩ : ∃ m, n = m + 1 := ⟨n - 1, by omega⟩
    refine ⟨size, many, tu, lt, lu, w, b, c, ti, s, r, wo, im, be, br, mem, path, ?_, hc, hg⟩
    rw [fX0_visit_L17]
    simp only [nm_eq]
    rw [if_pos ((ix_lt (by omega) (by omega)).mpr (by omega))]
  | succ k ih =>
    intro n i K size many tu mem path lt lu w b c ti s r wo im be br e1 e2 hg hz hc
    obtain ⟨n, rfl⟩ : ∃ m, n = m + 1 := ⟨n - 1, by omega⟩
    cases ho : K.2.2 with
    | true =>
      rw [kvis_ov ho]
      refine ⟨size, many, tu, lt, lu, w, b, c, ti, s, r, wo, im, be, br, mem, path, ?_, hc, hg⟩
      have hm : many = 1 := by rw [hc.2.1, if_pos ho]
      rw [fX0_visit_L17]
      simp only [nm_eq]
      rw [if_neg (fun g => by have := (ix_lt (by omega) (by omega)).mp g; omega), hm, if_neg (by decide)]
    | false =>
      obtain ⟨x, hx, hxQ⟩ := hz
      subst hxQ
      obtain ⟨size', many', tu', lt', lu', w', b', c', ti', s', r', wo', im', be', br', mem', path', f1, f2, f3, f4⟩ := x0_step hD hp hdv hg ho hx hs hall hbx (i := i) (by omega) found hc lt lu w b c ti s r wo im be br hF n
      rw [f1, kvis]
      exact ih n (i + 1) (kadd p fr K i) size' many' tu' mem' path' lt' lu' w' b' c' ti' s' r' wo' im' be' br' (by omega) (by omega) f3 f4 f2
theorem bd4_s {a b c d R : Type} (x1 : a) (x2 : b) (x3 : c) (x4 : d) (f : a → b → c → d → Option R) : bd4 (some (x1, x2, x3, x4)) f = f x1 x2 x3 x4 := rfl
theorem x0_visit {D : Int} (hD : D ≤ 6912) {p : Nat} (hp : p = 3 ∨ p = 5 ∨ p = 7) (hdv : ¬ (p : Int) ∣ D) {K : KS} (hg : Kg D K) {fr : Nat} (hfr : fr < K.1.length) {box : Nat → Int32} (hbx : bxA box) {size many : Int32} {tu : Nat → Int32} {mem path : Nat → Nat → Int32} (hc : CK K size many tu mem path) (lt lu : Int32) (six all w b c : Nat → Int32) (ti : Int32) (s r wo im be br : Nat → Int32) {F : Nat} (hF : 1000000 ≤ F) : ∃ size' many' tu' fo' lt' lu' six' all' w' b' c' ti' s' r' wo' im' be' br' mem' path', fX0_visit F size many (ix p) tu lt lu six all w b c ti s r box wo im be br mem path (ix fr) = some (size', many', tu', fo', ix p, lt', lu', six', all', w', b', c', ti', s', r', wo', im', be', br', mem', path') ∧ CK (kvis p fr (p + 1) 0 K) size' many' tu' mem' path' ∧ Kg D (kvis p fr (p + 1) 0 K) := by
  have hx : K.1[fr]? = some K.1[fr] := List.getElem?_eq_getElem hfr
  have hxg := hg.2.2.1 _ (List.getElem_mem hfr)
  have hl := hg.2.1
  have hqx : qs_ (K.1[fr]).1 := qs_S hxg.1 (by rw [hxg.2.2.1]; exact hD)
  obtain ⟨fo, six', all', e1, hs, hall⟩ := x2_all hqx hp (hc.2.2.1 fr _ hx).1 six all (show 100 ≤ F by omega)
  obtain ⟨size', many', tu', lt', lu', w', b', c', ti', s', r', wo', im', be', br', mem', path', f1, f2, f3⟩ := x0_L17 hD hp hdv hs hall hbx fo hF (p + 1) F 0 K size many tu mem path lt lu w b c ti s r wo im be br (by omega) (by omega) hg ⟨_, hx, rfl⟩ hc
  refine ⟨size', many', tu', fo, lt', lu', six', all', w', b', c', ti', s', r', wo', im', be', br', mem', path', ?_, f2, f3⟩
  unfold fX0_visit
  rw [if_pos (ix_ok (by omega) (by decide)), ix_nat (by omega), e1, bd4_s, ix_0]
  exact f1
