/-! kin: the reference's hold, holdKind, kindOfLeast, addKind -/
def RK (K : KS) (kinds : Int32) (kf : Nat → Int64) (kt kw : Nat → Int32) : Prop := kinds = ix K.1.length ∧ (∀ (i : Nat) (x : F6 × Nat), K.1[i]? = some x → al6 (fun j => kf (6 * i + j)) x.1 ∧ kt i = ix x.2) ∧ ∀ i j, i < 16 → j < 16 → kw (16 * i + j) = ix (K.2.1 i j)
theorem hk_s {k i : Nat} (hk : k ≤ 16) (hi : i < 6) (kf q : Nat → Int64) (n : Nat) : fX7_holdKind_L2 (ix k) kf (n + 1) (ix i) q = fX7_holdKind_L2 (ix k) kf n (ix (i + 1)) (vp_updL q i (kf (6 * k + i))) := by
  rw [fX7_holdKind_L2, if_neg (by rw [ix_6, ix_le (by decide) (by omega)]; omega)]
  simp only [nm_eq]
  rw [ix_6, ix_mul, ix_add, if_pos (ix_ok (by omega) (by decide)), if_pos (ix_ok hi (by decide)), ix_1, ix_add]
  simp only [ix_nat (show 6 * k + i ≤ 2147483647 by omega), ix_nat (show i ≤ 2147483647 by omega)]
theorem l7_holdKind {k : Nat} (hk : k ≤ 16) {kf : Nat → Int64} {Q : F6} (h : al6 (fun j => kf (6 * k + j)) Q) (q : Nat → Int64) {F : Nat} (hF : 100 ≤ F) : ∃ q', fX7_holdKind F q kf (ix k) = some q' ∧ al6 q' Q := by
  obtain ⟨f, rfl⟩ : ∃ f, F = f + 7 := ⟨F - 7, by omega⟩
  refine ⟨_, ?_, al6_up q _ h⟩
  unfold fX7_holdKind
  rw [ix_0, hk_s hk (by decide), hk_s hk (by decide), hk_s hk (by decide), hk_s hk (by decide), hk_s hk (by decide), hk_s hk (by decide), fX7_holdKind_L2, if_pos (by decide)]
  rfl
theorem ho_s {k i : Nat} (hk : k < 12) (hi : i < 6) (num : Nat → Int32) (q : Nat → Int64) (n : Nat) : fX7_hold_L2 (ix k) num (n + 1) (ix i) q = fX7_hold_L2 (ix k) num n (ix (i + 1)) (vp_updL q i (num (6 * k + i)).toInt64) := by
  rw [fX7_hold_L2, if_neg (by rw [ix_6, ix_le (by decide) (by omega)]; omega)]
  simp only [nm_eq]
  rw [ix_6, ix_mul, ix_add, if_pos (ix_ok (by omega) (by decide)), if_pos (ix_ok hi (by decide)), ix_1, ix_add]
  simp only [ix_nat (show 6 * k + i ≤ 2147483647 by omega), ix_nat (show i ≤ 2147483647 by omega)]
theorem l7_hold {k : Nat} (hk : k < 12) {num : Nat → Int32} {Q : F6} (h : a6 (fun j => num (6 * k + j)) Q) (hq : qs_ Q) (q : Nat → Int64) {F : Nat} (hF : 100 ≤ F) : ∃ q', fX7_hold F num q (ix k) = some q' ∧ al6 q' Q := by
  obtain ⟨f, rfl⟩ : ∃ f, F = f + 7 := ⟨F - 7, by omega⟩
  have h6 : al6 (fun j => (num (6 * k + j)).toInt64) Q := by
    obtain ⟨h0, h1, h2, h3, h4, h5⟩ := h
    obtain ⟨q0, q1, q2, q3, q4, q5⟩ := hq
    exact ⟨(congrArg Int32.toInt64 h0).trans (zi_wide ⟨by omega, by omega⟩), (congrArg Int32.toInt64 h1).trans (zi_wide ⟨by omega, by omega⟩), (congrArg Int32.toInt64 h2).trans (zi_wide ⟨by omega, by omega⟩), (congrArg Int32.toInt64 h3).trans (zi_wide ⟨by omega, by omega⟩), (congrArg Int32.toInt64 h4).trans (zi_wide ⟨by omega, by omega⟩), (congrArg Int32.toInt64 h5).trans (zi_wide ⟨by omega, by omega⟩)⟩
  refine ⟨_, ?_, al6_up q _ h6⟩
  unfold fX7_hold
  rw [ix_0, ho_s hk (by decide), ho_s hk (by decide), ho_s hk (by decide), ho_s hk (by decide), ho_s hk (by decide), ho_s hk (by decide), fX7_hold_L2, if_pos (by decide)]
  rfl
theorem kl_0 {k i : Nat} (hk : k ≤ 16) (hi : i < 6) (K : Int32 → Option Int32) (kf le : Nat → Int64) (n : Nat) : fX7_kindOfLeast_L14 K (ix k) kf le (n + 1) 0 (ix i) = fX7_kindOfLeast_L14 K (ix k) kf le n 0 (ix (i + 1)) := by
  rw [fX7_kindOfLeast_L14, if_neg (by rw [ix_6, ix_le (by decide) (by omega)]; omega)]
  simp only [nm_eq, ↓reduceIte]
  rw [ix_1, ix_add]
theorem kl_1 {k i : Nat} (hk : k ≤ 16) (hi : i < 6) (K : Int32 → Option Int32) (kf le : Nat → Int64) (n : Nat) : fX7_kindOfLeast_L14 K (ix k) kf le (n + 1) 1 (ix i) = if kf (6 * k + i) = le i then fX7_kindOfLeast_L14 K (ix k) kf le n 1 (ix (i + 1)) else fX7_kindOfLeast_L14 K (ix k) kf le n 0 (ix (i + 1)) := by
  rw [fX7_kindOfLeast_L14, if_neg (by rw [ix_6, ix_le (by decide) (by omega)]; omega)]
  simp only [nm_eq]
  rw [if_neg (by decide), ix_6, ix_mul, ix_add, if_pos (ix_ok (by omega) (by decide)), if_pos (ix_ok hi (by decide)), ix_1, ix_add]
  simp only [ix_nat (show 6 * k + i ≤ 2147483647 by omega), ix_nat (show i ≤ 2147483647 by omega)]
theorem kl_z {k : Nat} (hk : k ≤ 16) (K : Int32 → Option Int32) (kf le : Nat → Int64) : ∀ (m n i : Nat), i + m = 6 → m + 1 ≤ n → fX7_kindOfLeast_L14 K (ix k) kf le n 0 (ix i) = K 0
  | 0, n, i, h1, h2 => by
    obtain ⟨n, rfl⟩ : ∃ m, n = m + 1 := ⟨n - 1, by omega⟩
    have e : i = 6 := by omega
    subst e
    rw [fX7_kindOfLeast_L14, if_pos (by decide)]
  | m + 1, n, i, h1, h2 => by
    obtain ⟨n, rfl⟩ : ∃ m, n = m + 1 := ⟨n - 1, by omega⟩
    rw [kl_0 hk (by omega)]
    exact kl_z hk K kf le m n (i + 1) (by omega) (by omega)
theorem l7_same {k : Nat} (hk : k ≤ 16) (K : Int32 → Option Int32) {kf le : Nat → Int64} {Q L : F6} (hQ : al6 (fun j => kf (6 * k + j)) Q) (hL : al6 le L) (qQ : qs_ Q) (qL : qs_ L) (n : Nat) : fX7_kindOfLeast_L14 K (ix k) kf le (n + 7) 1 0 = K (if Q = L then 1 else 0) := by
  obtain ⟨a0, a1, a2, a3, a4, a5⟩ := hQ
  obtain ⟨b0, b1, b2, b3, b4, b5⟩ := hL
  obtain ⟨c0, c1, c2, c3, c4, c5⟩ := qQ
  obtain ⟨d0, d1, d2, d3, d4, d5⟩ := qL
  dsimp only at a0 a1 a2 a3 a4 a5
  have q0 : kf (6 * k + 0) = le 0 ↔ Q.1 = L.1 := by rw [a0, b0]; exact zl_eq ⟨by omega, by omega⟩ ⟨by omega, by omega⟩
  have q1 : kf (6 * k + 1) = le 1 ↔ Q.2.1 = L.2.1 := by rw [a1, b1]; exact zl_eq ⟨by omega, by omega⟩ ⟨by omega, by omega⟩
  have q2 : kf (6 * k + 2) = le 2 ↔ Q.2.2.1 = L.2.2.1 := by rw [a2, b2]; exact zl_eq ⟨by omega, by omega⟩ ⟨by omega, by omega⟩
  have q3 : kf (6 * k + 3) = le 3 ↔ Q.2.2.2.1 = L.2.2.2.1 := by rw [a3, b3]; exact zl_eq ⟨by omega, by omega⟩ ⟨by omega, by omega⟩
  have q4 : kf (6 * k + 4) = le 4 ↔ Q.2.2.2.2.1 = L.2.2.2.2.1 := by rw [a4, b4]; exact zl_eq ⟨by omega, by omega⟩ ⟨by omega, by omega⟩
  have q5 : kf (6 * k + 5) = le 5 ↔ Q.2.2.2.2.2 = L.2.2.2.2.2 := by rw [a5, b5]; exact zl_eq ⟨by omega, by omega⟩ ⟨by omega, by omega⟩
  rw [ix_0, kl_1 hk (by decide)]
  by_cases g0 : Q.1 = L.1
  · rw [if_pos (q0.mpr g0), kl_1 hk (by decide)]
    by_cases g1 : Q.2.1 = L.2.1
    · rw [if_pos (q1.mpr g1), kl_1 hk (by decide)]
      by_cases g2 : Q.2.2.1 = L.2.2.1
      · rw [if_pos (q2.mpr g2), kl_1 hk (by decide)]
        by_cases g3 : Q.2.2.2.1 = L.2.2.2.1
        · rw [if_pos (q3.mpr g3), kl_1 hk (by decide)]
          by_cases g4 : Q.2.2.2.2.1 = L.2.2.2.2.1
          · rw [if_pos (q4.mpr g4), kl_1 hk (by decide)]
            by_cases g5 : Q.2.2.2.2.2 = L.2.2.2.2.2
            · rw [if_pos (q5.mpr g5), fX7_kindOfLeast_L14, if_pos (by decide), if_pos (Prod.ext g0 (Prod.ext g1 (Prod.ext g2 (Prod.ext g3 (Prod.ext g4 g5)))))]
            · rw [if_neg (fun t => g5 (q5.mp t)), kl_z hk K kf le 0 _ _ (by decide) (by omega), if_neg (fun t => g5 (by rw [t]))]; rfl
          · rw [if_neg (fun t => g4 (q4.mp t)), kl_z hk K kf le 1 _ _ (by decide) (by omega), if_neg (fun t => g4 (by rw [t]))]; rfl
        · rw [if_neg (fun t => g3 (q3.mp t)), kl_z hk K kf le 2 _ _ (by decide) (by omega), if_neg (fun t => g3 (by rw [t]))]; rfl
      · rw [if_neg (fun t => g2 (q2.mp t)), kl_z hk K kf le 3 _ _ (by decide) (by omega), if_neg (fun t => g2 (by rw [t]))]; rfl
    · rw [if_neg (fun t => g1 (q1.mp t)), kl_z hk K kf le 4 _ _ (by decide) (by omega), if_neg (fun t => g1 (by rw [t]))]; rfl
  · rw [if_neg (fun t => g0 (q0.mp t)), kl_z hk K kf le 5 _ _ (by decide) (by omega), if_neg (fun t => g0 (by rw [t]))]; rfl
theorem l7_pl {D : Int} {K : KS} (hg : Kg D K) (hD : D ≤ 6912) {kf le : Nat → Int64} (hm : ∀ (i : Nat) (x : F6 × Nat), K.1[i]? = some x → al6 (fun j => kf (6 * i + j)) x.1) {L : F6} (hn : al6 le L) (hL : qs_ L) {F : Nat} (hF : 100 ≤ F) : fX7_kindOfLeast F (ix K.1.length) le kf = some (plI (plN K.1 L 0)) := by
  obtain ⟨g1, g2, g3, g4⟩ := hg
  obtain ⟨f, hf⟩ : ∃ f, F = f + 7 := ⟨F - 7, by omega⟩
  have key : ∀ (k n j : Nat), j + k = K.1.length → k + 1 ≤ n → fX7_kindOfLeast_L2 (ix K.1.length) kf le F n (ix j) = some (plI (plN (K.1.drop j) L j)) := by
    intro k
    induction k with
    | zero =>
      intro n j e1 e2
      obtain ⟨n, rfl⟩ : ∃ m, n = m + 1 := ⟨n - 1, by omega⟩
      rw [fX7_kindOfLeast_L2, if_pos ((ix_le (by omega) (by omega)).mpr (by omega)), List.drop_eq_nil_of_le (by omega)]
      rfl
    | succ k ih =>
      intro n j e1 e2
      obtain ⟨n, rfl⟩ : ∃ m, n = m + 1 := ⟨n - 1, by omega⟩
      have hj : j < K.1.length := by omega
      have hx : K.1[j]? = some K.1[j] := List.getElem?_eq_getElem hj
      have hxg := g3 _ (List.getElem_mem hj)
      have hqx : qs_ (K.1[j]).1 := qs_S hxg.1 (by rw [hxg.2.2.1]; exact hD)
      rw [fX7_kindOfLeast_L2, if_neg (fun g => by have := (ix_le (by omega) (by omega)).mp g; omega)]
      simp only [nm_eq]
      rw [hf, l7_same (by omega) _ (hm j _ hx) hn hqx hL, List.drop_eq_getElem_cons hj, plN, ← hf]
      by_cases g : (K.1[j]).1 = L
      · rw [if_pos g, if_neg (by decide), if_pos g]; rfl
      · rw [if_neg g, if_pos rfl, if_neg g, ix_1, ix_add]
        exact ih n (j + 1) (by omega) (by omega)
  have := key K.1.length F 0 (by omega) (by omega)
  rw [List.drop_zero] at this
  exact this
theorem ak_s {k i : Nat} (hk : k ≤ 16) (hi : i < 6) (K : (Nat → Int64) → Option (Int32 × (Nat → Int64) × (Nat → Int32))) (kf le : Nat → Int64) (n : Nat) : fX7_addKind_L2 K (ix k) le (n + 1) (ix i) kf = fX7_addKind_L2 K (ix k) le n (ix (i + 1)) (vp_updL kf (6 * k + i) (le i)) := by
  rw [fX7_addKind_L2, if_neg (by rw [ix_6, ix_le (by decide) (by omega)]; omega), if_pos (ix_ok hi (by decide))]
  simp only [nm_eq]
  rw [ix_6, ix_mul, ix_add, if_pos (ix_ok (by omega) (by decide)), ix_1, ix_add]
  simp only [ix_nat (show 6 * k + i ≤ 2147483647 by omega), ix_nat (show i ≤ 2147483647 by omega)]
theorem ak_c {k : Nat} (hk : k ≤ 16) (K : (Nat → Int64) → Option (Int32 × (Nat → Int64) × (Nat → Int32))) (kf le : Nat → Int64) (n : Nat) : fX7_addKind_L2 K (ix k) le (n + 7) 0 kf = K (vp_updL (vp_updL (vp_updL (vp_updL (vp_updL (vp_updL kf (6 * k + 0) (le 0)) (6 * k + (0 + 1)) (le (0 + 1))) (6 * k + (0 + 1 + 1)) (le (0 + 1 + 1))) (6 * k + (0 + 1 + 1 + 1)) (le (0 + 1 + 1 + 1))) (6 * k + (0 + 1 + 1 + 1 + 1)) (le (0 + 1 + 1 + 1 + 1))) (6 * k + (0 + 1 + 1 + 1 + 1 + 1)) (le (0 + 1 + 1 + 1 + 1 + 1))) := by
  rw [ix_0, ak_s hk (by decide), ak_s hk (by decide), ak_s hk (by decide), ak_s hk (by decide), ak_s hk (by decide), ak_s hk (by decide), fX7_addKind_L2, if_pos (by decide)]
theorem l7_addKind {ms : List (F6 × Nat)} {kf le : Nat → Int64} {kt : Nat → Int32} (hm : ∀ (i : Nat) (x : F6 × Nat), ms[i]? = some x → al6 (fun j => kf (6 * i + j)) x.1 ∧ kt i = ix x.2) (hlen : ms.length ≤ 16) {L : F6} (hL : al6 le L) (n : Nat) {F : Nat} (hF : 100 ≤ F) : ∃ kf' kt', fX7_addKind F (ix n) (ix ms.length) le kf kt = some (ix (ms.length + 1), kf', kt') ∧ ∀ (i : Nat) (x : F6 × Nat), (ms ++ [(L, n)])[i]? = some x → al6 (fun j => kf' (6 * i + j)) x.1 ∧ kt' i = ix x.2 := by
  obtain ⟨f, rfl⟩ : ∃ f, F = f + 7 := ⟨F - 7, by omega⟩
  refine ⟨vp_updL (vp_updL (vp_updL (vp_updL (vp_updL (vp_updL kf (6 * ms.length + 0) (le 0)) (6 * ms.length + (0 + 1)) (le (0 + 1))) (6 * ms.length + (0 + 1 + 1)) (le (0 + 1 + 1))) (6 * ms.length + (0 + 1 + 1 + 1)) (le (0 + 1 + 1 + 1))) (6 * ms.length + (0 + 1 + 1 + 1 + 1)) (le (0 + 1 + 1 + 1 + 1))) (6 * ms.length + (0 + 1 + 1 + 1 + 1 + 1)) (le (0 + 1 + 1 + 1 + 1 + 1)), upd kt ms.length (ix n), ?_, ?_⟩
  · unfold fX7_addKind
    simp only [nm_eq]
    rw [ak_c hlen, if_pos (ix_ok (by omega) (by decide)), ix_1, ix_add, ix_nat (by omega)]
  · intro i x hx
    by_cases g : i = ms.length
    · subst g
      rw [List.getElem?_append_right (Nat.le_refl _), Nat.sub_self] at hx
      cases hx
      obtain ⟨h0, h1, h2, h3, h4, h5⟩ := hL
      refine ⟨⟨?_, ?_, ?_, ?_, ?_, ?_⟩, ?_⟩
      · simp [vp_updL, h0]
      · simp [vp_updL, h1]
      · simp [vp_updL, h2]
      · simp [vp_updL, h3]
      · simp [vp_updL, h4]
      · simp [vp_updL, h5]
      · simp [upd]
    · have hi : i < ms.length := by
        have := (List.getElem?_eq_some_iff.mp hx).1
        rw [List.length_append, List.length_singleton] at this
        omega
      rw [List.getElem?_append_left hi] at hx
      have h := hm i x hx
      have e : ∀ j, j < 6 → vp_updL (vp_updL (vp_updL (vp_updL (vp_updL (vp_updL kf (6 * ms.length + 0) (le 0)) (6 * ms.length + (0 + 1)) (le (0 + 1))) (6 * ms.length + (0 + 1 + 1)) (le (0 + 1 + 1))) (6 * ms.length + (0 + 1 + 1 + 1)) (le (0 + 1 + 1 + 1))) (6 * ms.length + (0 + 1 + 1 + 1 + 1)) (le (0 + 1 + 1 + 1 + 1))) (6 * ms.length + (0 + 1 + 1 + 1 + 1 + 1)) (le (0 + 1 + 1 + 1 + 1 + 1)) (6 * i + j) = kf (6 * i + j) := by
        intro j hj
        unfold vp_updL
        rw [if_neg (by omega), if_neg (by omega), if_neg (by omega), if_neg (by omega), if_neg (by omega), if_neg (by omega)]
      refine ⟨⟨?_, ?_, ?_, ?_, ?_, ?_⟩, ?_⟩
      · exact (e 0 (by decide)).trans h.1.1
      · exact (e 1 (by decide)).trans h.1.2.1
      · exact (e 2 (by decide)).trans h.1.2.2.1
      · exact (e 3 (by decide)).trans h.1.2.2.2.1
      · exact (e 4 (by decide)).trans h.1.2.2.2.2.1
      · exact (e 5 (by decide)).trans h.1.2.2.2.2.2
      · rw [upd, if_neg g]; exact h.2
theorem l7_divides {q : Nat → Int64} {Q : F6} (hq : al6 q Q) (hD : 0 ≤ qf_disc Q ∧ qf_disc Q ≤ 6912) {p : Nat} (hp : p = 3 ∨ p = 5 ∨ p = 7) : fX7_divides (ix p) q = some (if (p : Int) ∣ qf_disc Q then 1 else 0) := by
  unfold fX7_divides
  rw [l7_disc hq, bd1_s, ix_wide (by omega)]
  simp only [nm_eq]
  rw [if_pos (nn_hpl hp)]
  by_cases g : (p : Int) ∣ qf_disc Q
  · rw [if_pos ((zl_dvd ⟨by omega, by omega⟩ ⟨by omega, by omega⟩ (by omega)).mpr g), if_pos g]
    rfl
  · rw [if_neg (fun t => g ((zl_dvd ⟨by omega, by omega⟩ ⟨by omega, by omega⟩ (by omega)).mp t)), if_neg g]
    rfl
