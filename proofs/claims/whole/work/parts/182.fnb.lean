/-! neighbours: the reference's findNeighbour, loop by loop -/
abbrev O15 : Type := Option ((Int32) × (Int32) × (Int32) × (Nat → Int64) × (Nat → Int64) × (Nat → Int64) × (Nat → Int64) × (Nat → Int64) × (Nat → Int64) × (Nat → Int32) × (Nat → Int64) × (Nat → Int64) × (Nat → Int64) × (Nat → Int64) × (Nat → Int64))
theorem nn_mod {p : Nat} (hp : p = 3 ∨ p = 5 ∨ p = 7) (T : Int) : (T.tmod (p : Int) + (p : Int)).tmod (p : Int) = T % (p : Int) := by
  have h2 := Int.lt_tmod_of_pos T (show (0 : Int) < p by omega)
  rw [Int.tmod_eq_emod_of_nonneg (by omega), Int.tmod_def]
  generalize T.tdiv (p : Int) = d
  rcases hp with e | e | e <;> subst e <;> omega
theorem nn_hpl {p : Nat} (hp : p = 3 ∨ p = 5 ∨ p = 7) : ¬ Int64.ofInt (p : Int) = 0 := by rw [zl_0, zl_eq ⟨by omega, by omega⟩ ⟨by omega, by omega⟩]; omega
theorem nn_rem {p : Nat} (hp : p = 3 ∨ p = 5 ∨ p = 7) {T : Int} (h : rL T) : (Int64.ofInt T - Int64.ofInt T / Int64.ofInt (p : Int) * Int64.ofInt (p : Int) + Int64.ofInt (p : Int)) - (Int64.ofInt T - Int64.ofInt T / Int64.ofInt (p : Int) * Int64.ofInt (p : Int) + Int64.ofInt (p : Int)) / Int64.ofInt (p : Int) * Int64.ofInt (p : Int) = Int64.ofInt (T % (p : Int)) := by
  have h1 := Int.tmod_lt_of_pos T (show (0 : Int) < p by omega)
  have h2 := Int.lt_tmod_of_pos T (show (0 : Int) < p by omega)
  rw [zl_rem h ⟨by omega, by omega⟩, ← Int64.ofInt_add, zl_rem ⟨by omega, by omega⟩ ⟨by omega, by omega⟩, nn_mod hp]
theorem n9_0 {Q : F6} {q line : Nat → Int64} (hq : al6 q Q) (hs : qs_ Q) {p u t : Nat} (hp : p = 3 ∨ p = 5 ∨ p = 7) {l : V3} (hl : avl line 0 l) (hu : u < 3) (ht : t ≤ 1000) (hw : v60 (zW l p t u)) (K : Int32 → (Nat → Int64) → O15) (n : Nat) (x : Int32) (tc : Nat → Int64) : fX7_findNeighbour_L9 K (ix p) (ix t) (ix u) line q (n + 1) x 0 tc = if (p : Int) ∣ qf_tch Q (zW l p t u) (un 0) then fX7_findNeighbour_L9 K (ix p) (ix t) (ix u) line q n x 1 (vp_updL tc 0 (Int64.ofInt (qf_tch Q (zW l p t u) (un 0) % (p : Int)))) else fX7_findNeighbour_L9 K (ix p) (ix t) (ix u) line q n 0 1 (vp_updL tc 0 (Int64.ofInt (qf_tch Q (zW l p t u) (un 0) % (p : Int)))) := by
  obtain ⟨d0, d1, d2⟩ := l7_lined hl hp hu ht
  have hb := qs_tch hs hw (w := un 0) (by simp [v60, un])
  have ht2 : fX7_touchOf q (Int64.ofInt (zW l p t u).1) (Int64.ofInt (zW l p t u).2.1) (Int64.ofInt (zW l p t u).2.2) 1 0 0 = some (Int64.ofInt (qf_tch Q (zW l p t u) (un 0))) := l7_tch hq _ (un 0)
  have cA : ((0 : Int32) = 0) = True := eq_self _
  have cB : ((0 : Int32) = 1) = False := eq_false (by decide)
  have cC : ((0 : Int32) = 2) = False := eq_false (by decide)
  have cD : ((3 : Int32) ≤ 0) = False := eq_false (by decide)
  have cE : okI (0 : Int32) 3 := by decide
  have cN : (0 : Int32).toNatClampNeg = 0 := by decide
  have cS : (0 : Int32) + 1 = 1 := rfl
  have hpl := nn_hpl hp
  have hr := nn_rem hp (T := qf_tch Q (zW l p t u) (un 0)) ⟨by omega, by omega⟩
  have hW : (ix p).toInt64 = Int64.ofInt (p : Int) := ix_wide (by omega)
  rw [fX7_findNeighbour_L9, d0, d1, d2]
  simp only [nm_eq, bd1_s, cA, cB, cC, cD, ↓reduceIte, ht2, hW, cN, cS]
  rw [if_pos hpl, if_pos hpl, if_pos cE, if_pos cE, hr, vl_s]
  refine if_cg ?_
  have m1 := Int.emod_nonneg (qf_tch Q (zW l p t u) (un 0)) (show (p : Int) ≠ 0 by omega)
  have m2 := Int.emod_lt_of_pos (qf_tch Q (zW l p t u) (un 0)) (show (0 : Int) < p by omega)
  rw [zl_0, zl_eq ⟨by omega, by omega⟩ ⟨by omega, by omega⟩]
  exact ⟨Int.dvd_of_emod_eq_zero, Int.emod_eq_zero_of_dvd⟩
theorem n9_1 {Q : F6} {q line : Nat → Int64} (hq : al6 q Q) (hs : qs_ Q) {p u t : Nat} (hp : p = 3 ∨ p = 5 ∨ p = 7) {l : V3} (hl : avl line 0 l) (hu : u < 3) (ht : t ≤ 1000) (hw : v60 (zW l p t u)) (K : Int32 → (Nat → Int64) → O15) (n : Nat) (x : Int32) (tc : Nat → Int64) : fX7_findNeighbour_L9 K (ix p) (ix t) (ix u) line q (n + 1) x 1 tc = if (p : Int) ∣ qf_tch Q (zW l p t u) (un 1) then fX7_findNeighbour_L9 K (ix p) (ix t) (ix u) line q n x 2 (vp_updL tc 1 (Int64.ofInt (qf_tch Q (zW l p t u) (un 1) % (p : Int)))) else fX7_findNeighbour_L9 K (ix p) (ix t) (ix u) line q n 1 2 (vp_updL tc 1 (Int64.ofInt (qf_tch Q (zW l p t u) (un 1) % (p : Int)))) := by
  obtain ⟨d0, d1, d2⟩ := l7_lined hl hp hu ht
  have hb := qs_tch hs hw (w := un 1) (by simp [v60, un])
  have ht2 : fX7_touchOf q (Int64.ofInt (zW l p t u).1) (Int64.ofInt (zW l p t u).2.1) (Int64.ofInt (zW l p t u).2.2) 0 1 0 = some (Int64.ofInt (qf_tch Q (zW l p t u) (un 1))) := l7_tch hq _ (un 1)
  have cA : ((1 : Int32) = 0) = False := eq_false (by decide)
  have cB : ((1 : Int32) = 1) = True := eq_self _
  have cC : ((1 : Int32) = 2) = False := eq_false (by decide)
  have cD : ((3 : Int32) ≤ 1) = False := eq_false (by decide)
  have cE : okI (1 : Int32) 3 := by decide
  have cN : (1 : Int32).toNatClampNeg = 1 := by decide
  have cS : (1 : Int32) + 1 = 2 := rfl
  have hpl := nn_hpl hp
  have hr := nn_rem hp (T := qf_tch Q (zW l p t u) (un 1)) ⟨by omega, by omega⟩
  have hW : (ix p).toInt64 = Int64.ofInt (p : Int) := ix_wide (by omega)
  rw [fX7_findNeighbour_L9, d0, d1, d2]
  simp only [nm_eq, bd1_s, cA, cB, cC, cD, ↓reduceIte, ht2, hW, cN, cS]
  rw [if_pos hpl, if_pos hpl, if_pos cE, if_pos cE, hr, vl_s]
  refine if_cg ?_
  have m1 := Int.emod_nonneg (qf_tch Q (zW l p t u) (un 1)) (show (p : Int) ≠ 0 by omega)
  have m2 := Int.emod_lt_of_pos (qf_tch Q (zW l p t u) (un 1)) (show (0 : Int) < p by omega)
  rw [zl_0, zl_eq ⟨by omega, by omega⟩ ⟨by omega, by omega⟩]
  exact ⟨Int.dvd_of_emod_eq_zero, Int.emod_eq_zero_of_dvd⟩
theorem n9_2 {Q : F6} {q line : Nat → Int64} (hq : al6 q Q) (hs : qs_ Q) {p u t : Nat} (hp : p = 3 ∨ p = 5 ∨ p = 7) {l : V3} (hl : avl line 0 l) (hu : u < 3) (ht : t ≤ 1000) (hw : v60 (zW l p t u)) (K : Int32 → (Nat → Int64) → O15) (n : Nat) (x : Int32) (tc : Nat → Int64) : fX7_findNeighbour_L9 K (ix p) (ix t) (ix u) line q (n + 1) x 2 tc = if (p : Int) ∣ qf_tch Q (zW l p t u) (un 2) then fX7_findNeighbour_L9 K (ix p) (ix t) (ix u) line q n x 3 (vp_updL tc 2 (Int64.ofInt (qf_tch Q (zW l p t u) (un 2) % (p : Int)))) else fX7_findNeighbour_L9 K (ix p) (ix t) (ix u) line q n 2 3 (vp_updL tc 2 (Int64.ofInt (qf_tch Q (zW l p t u) (un 2) % (p : Int)))) := by
  obtain ⟨d0, d1, d2⟩ := l7_lined hl hp hu ht
  have hb := qs_tch hs hw (w := un 2) (by simp [v60, un])
  have ht2 : fX7_touchOf q (Int64.ofInt (zW l p t u).1) (Int64.ofInt (zW l p t u).2.1) (Int64.ofInt (zW l p t u).2.2) 0 0 1 = some (Int64.ofInt (qf_tch Q (zW l p t u) (un 2))) := l7_tch hq _ (un 2)
  have cA : ((2 : Int32) = 0) = False := eq_false (by decide)
  have cB : ((2 : Int32) = 1) = False := eq_false (by decide)
  have cC : ((2 : Int32) = 2) = True := eq_self _
  have cD : ((3 : Int32) ≤ 2) = False := eq_false (by decide)
  have cE : okI (2 : Int32) 3 := by decide
  have cN : (2 : Int32).toNatClampNeg = 2 := by decide
  have cS : (2 : Int32) + 1 = 3 := rfl
  have hpl := nn_hpl hp
  have hr := nn_rem hp (T := qf_tch Q (zW l p t u) (un 2)) ⟨by omega, by omega⟩
  have hW : (ix p).toInt64 = Int64.ofInt (p : Int) := ix_wide (by omega)
  rw [fX7_findNeighbour_L9, d0, d1, d2]
  simp only [nm_eq, bd1_s, cA, cB, cC, cD, ↓reduceIte, ht2, hW, cN, cS]
  rw [if_pos hpl, if_pos hpl, if_pos cE, if_pos cE, hr, vl_s]
  refine if_cg ?_
  have m1 := Int.emod_nonneg (qf_tch Q (zW l p t u) (un 2)) (show (p : Int) ≠ 0 by omega)
  have m2 := Int.emod_lt_of_pos (qf_tch Q (zW l p t u) (un 2)) (show (0 : Int) < p by omega)
  rw [zl_0, zl_eq ⟨by omega, by omega⟩ ⟨by omega, by omega⟩]
  exact ⟨Int.dvd_of_emod_eq_zero, Int.emod_eq_zero_of_dvd⟩
theorem n9_3 (K : Int32 → (Nat → Int64) → O15) (p t u : Int32) (line q : Nat → Int64) (n : Nat) (x : Int32) (tc : Nat → Int64) : fX7_findNeighbour_L9 K p t u line q (n + 1) x 3 tc = K x tc := by
  rw [fX7_findNeighbour_L9, if_pos (by decide)]
def tmV (Q : F6) (p : Nat) (w : V3) : V3 := (qf_tch Q w (un 0) % (p : Int), qf_tch Q w (un 1) % (p : Int), qf_tch Q w (un 2) % (p : Int))
theorem n9 {Q : F6} {q line : Nat → Int64} (hq : al6 q Q) (hs : qs_ Q) {p u t : Nat} (hp : p = 3 ∨ p = 5 ∨ p = 7) {l : V3} (hl : avl line 0 l) (hu : u < 3) (ht : t ≤ 1000) (hw : v60 (zW l p t u)) (hn : ¬ (p : Int) ∣ qf_tch Q (zW l p t u) (un u)) (K : Int32 → (Nat → Int64) → O15) (n : Nat) (x : Int32) (tc : Nat → Int64) : fX7_findNeighbour_L9 K (ix p) (ix t) (ix u) line q (n + 4) x 0 tc = K (ix (lstN (tmV Q p (zW l p t u)))) (up3 tc 0 (Int64.ofInt (tmV Q p (zW l p t u)).1) (Int64.ofInt (tmV Q p (zW l p t u)).2.1) (Int64.ofInt (tmV Q p (zW l p t u)).2.2)) := by
  have z : ∀ T : Int, (p : Int) ∣ T ↔ T % (p : Int) = 0 := fun T => ⟨Int.emod_eq_zero_of_dvd, Int.dvd_of_emod_eq_zero⟩
  by_cases g2 : (p : Int) ∣ qf_tch Q (zW l p t u) (un 2)
  · by_cases g1 : (p : Int) ∣ qf_tch Q (zW l p t u) (un 1)
    · by_cases g0 : (p : Int) ∣ qf_tch Q (zW l p t u) (un 0)
      · exfalso
        have : u = 0 ∨ u = 1 ∨ u = 2 := by omega
        rcases this with e | e | e <;> subst e
        · exact hn g0
        · exact hn g1
        · exact hn g2
      · have el : lstN (tmV Q p (zW l p t u)) = 0 := by
          unfold lstN tmV
          dsimp only
          rw [if_neg (fun h => h ((z _).mp g2)), if_neg (fun h => h ((z _).mp g1))]
        rw [el, n9_0 hq hs hp hl hu ht hw, if_neg g0, n9_1 hq hs hp hl hu ht hw, if_pos g1, n9_2 hq hs hp hl hu ht hw, if_pos g2, n9_3]
        rfl
    · have el : lstN (tmV Q p (zW l p t u)) = 1 := by
        unfold lstN tmV
        dsimp only
        rw [if_neg (fun h => h ((z _).mp g2)), if_pos (fun h => g1 ((z _).mpr h))]
      by_cases g0 : (p : Int) ∣ qf_tch Q (zW l p t u) (un 0)
      · rw [el, n9_0 hq hs hp hl hu ht hw, if_pos g0, n9_1 hq hs hp hl hu ht hw, if_neg g1, n9_2 hq hs hp hl hu ht hw, if_pos g2, n9_3]
        rfl
      · rw [el, n9_0 hq hs hp hl hu ht hw, if_neg g0, n9_1 hq hs hp hl hu ht hw, if_neg g1, n9_2 hq hs hp hl hu ht hw, if_pos g2, n9_3]
        rfl
  · have el : lstN (tmV Q p (zW l p t u)) = 2 := by
      unfold lstN tmV
      dsimp only
      rw [if_pos (fun h => g2 ((z _).mpr h))]
    by_cases g0 : (p : Int) ∣ qf_tch Q (zW l p t u) (un 0)
    · by_cases g1 : (p : Int) ∣ qf_tch Q (zW l p t u) (un 1)
      · rw [el, n9_0 hq hs hp hl hu ht hw, if_pos g0, n9_1 hq hs hp hl hu ht hw, if_pos g1, n9_2 hq hs hp hl hu ht hw, if_neg g2, n9_3]
        rfl
      · rw [el, n9_0 hq hs hp hl hu ht hw, if_pos g0, n9_1 hq hs hp hl hu ht hw, if_neg g1, n9_2 hq hs hp hl hu ht hw, if_neg g2, n9_3]
        rfl
    · by_cases g1 : (p : Int) ∣ qf_tch Q (zW l p t u) (un 1)
      · rw [el, n9_0 hq hs hp hl hu ht hw, if_neg g0, n9_1 hq hs hp hl hu ht hw, if_pos g1, n9_2 hq hs hp hl hu ht hw, if_neg g2, n9_3]
        rfl
      · rw [el, n9_0 hq hs hp hl hu ht hw, if_neg g0, n9_1 hq hs hp hl hu ht hw, if_neg g1, n9_2 hq hs hp hl hu ht hw, if_neg g2, n9_3]
        rfl
theorem n115_s {p s : Nat} (hp : p = 3 ∨ p = 5 ∨ p = 7) (hs : s < 3) {x y : Int} (hx : 0 ≤ x ∧ x ≤ 7) (hy : 1 ≤ y ∧ y ≤ 6) {tc : Nat → Int64} (htc : tc s = Int64.ofInt x) (K : Int64 → O15) (n : Nat) : fX7_findNeighbour_L115 (ix s) tc (ix p) K (n + 1) (Int64.ofInt y) = if (y * x) % (p : Int) = 1 then K (Int64.ofInt y) else fX7_findNeighbour_L115 (ix s) tc (ix p) K n (Int64.ofInt (y + 1)) := by
  have b1 := (bd_mul (a := y) (b := x) (A := 6) (B := 7) (by omega) (by omega)).2
  have b2 := Int.mul_nonneg (show 0 ≤ y by omega) hx.1
  have m1 := Int.emod_nonneg (y * x) (show (p : Int) ≠ 0 by omega)
  have m2 := Int.emod_lt_of_pos (y * x) (show (0 : Int) < p by omega)
  rw [fX7_findNeighbour_L115, if_pos (ix_ok hs (by decide))]
  simp only [nm_eq, ix_nat (show s ≤ 2147483647 by omega), htc, ix_wide (show p ≤ 2147483647 by omega)]
  rw [if_pos (nn_hpl hp), ← Int64.ofInt_mul, zl_rem ⟨by omega, by omega⟩ ⟨by omega, by omega⟩, Int.tmod_eq_emod_of_nonneg b2, zl_1, ← Int64.ofInt_add]
  exact if_cg (zl_eq ⟨by omega, by omega⟩ ⟨by omega, by omega⟩)
theorem n115 {p s : Nat} (hp : p = 3 ∨ p = 5 ∨ p = 7) (hs : s < 3) {x : Int} (hx : 0 ≤ x ∧ x ≤ 7) (hd : ¬ (p : Int) ∣ x) {tc : Nat → Int64} (htc : tc s = Int64.ofInt x) (K : Int64 → O15) (n : Nat) : fX7_findNeighbour_L115 (ix s) tc (ix p) K (n + 7) 1 = K (Int64.ofInt (ivm p x)) := by
  have sp := ivm_spec hp hd
  unfold ivm at sp ⊢
  rw [zl_1, n115_s hp hs hx (by omega) htc]
  by_cases g1 : (1 * x) % (p : Int) = 1
  · rw [if_pos g1, if_pos g1]
  rw [if_neg g1] at sp ⊢
  rw [if_neg g1, show (1 : Int) + 1 = 2 from rfl, n115_s hp hs hx (y := 2) (by omega) htc]
  by_cases g2 : (2 * x) % (p : Int) = 1
  · rw [if_pos g2, if_pos g2]
  rw [if_neg g2] at sp ⊢
  rw [if_neg g2, show (2 : Int) + 1 = 3 from rfl, n115_s hp hs hx (y := 3) (by omega) htc]
  by_cases g3 : (3 * x) % (p : Int) = 1
  · rw [if_pos g3, if_pos g3]
  rw [if_neg g3] at sp ⊢
  rw [if_neg g3, show (3 : Int) + 1 = 4 from rfl, n115_s hp hs hx (y := 4) (by omega) htc]
  by_cases g4 : (4 * x) % (p : Int) = 1
  · rw [if_pos g4, if_pos g4]
  rw [if_neg g4] at sp ⊢
  rw [if_neg g4, show (4 : Int) + 1 = 5 from rfl, n115_s hp hs hx (y := 5) (by omega) htc]
  by_cases g5 : (5 * x) % (p : Int) = 1
  · rw [if_pos g5, if_pos g5]
  rw [if_neg g5] at sp ⊢
  rw [if_neg g5, show (5 : Int) + 1 = 6 from rfl, n115_s hp hs hx (y := 6) (by omega) htc]
  by_cases g6 : (6 * x) % (p : Int) = 1
  · rw [if_pos g6, if_pos g6]
  rw [if_neg g6] at sp
  exact absurd sp g1
def kv (p r s k : Nat) (X g : Int) : Int := if r = s then (if k = s then (p : Int) else 0) else if k = r then 1 else if k = s then -((X * g) % (p : Int)) else 0
theorem n153_s {p r s k : Nat} (hp : p = 3 ∨ p = 5 ∨ p = 7) (hr : r < 3) (hs : s < 3) (hk : k < 3) {X g : Int} (hX : 0 ≤ X ∧ X ≤ 7) (hg : 1 ≤ g ∧ g ≤ 6) {tc : Nat → Int64} (htc : tc r = Int64.ofInt X) (K : (Nat → Int64) → O15) (n : Nat) (mk : Nat → Int64) : fX7_findNeighbour_L153 K (ix r) (ix p) (ix s) tc (Int64.ofInt g) (n + 1) (ix k) mk = fX7_findNeighbour_L153 K (ix r) (ix p) (ix s) tc (Int64.ofInt g) n (ix (k + 1)) (vp_updL mk (3 * r + k) (Int64.ofInt ((p : Int) * kv p r s k X g))) := by
  have b1 := (bd_mul (a := X) (b := g) (A := 7) (B := 6) (by omega) (by omega)).2
  have b2 := Int.mul_nonneg hX.1 (show 0 ≤ g by omega)
  have leaf : ∀ (v : Int64) (V : Int), v = Int64.ofInt V → (if okI ((3 : Int32) * ix r + ix k) 12 then fX7_findNeighbour_L153 K (ix r) (ix p) (ix s) tc (Int64.ofInt g) n (ix k + 1) (vp_updL mk ((3 : Int32) * ix r + ix k).toNatClampNeg ((ix p).toInt64 * v)) else none) = fX7_findNeighbour_L153 K (ix r) (ix p) (ix s) tc (Int64.ofInt g) n (ix (k + 1)) (vp_updL mk (3 * r + k) (Int64.ofInt ((p : Int) * V))) := by
    intro v V hv
    rw [hv, ix_3, ix_mul, ix_add, if_pos (ix_ok (by omega) (by decide)), ix_1, ix_add, ix_nat (by omega), ix_wide (by omega), ← Int64.ofInt_mul]
  have q1 : ∀ a b : Nat, a < 3 → b < 3 → (ix a = ix b ↔ a = b) := fun a b ha hb => ix_eq (by omega) (by omega)
  rw [fX7_findNeighbour_L153, if_neg (by rw [ix_3, ix_le (by decide) (by omega)]; omega)]
  simp only [nm_eq]
  unfold kv
  by_cases a : r = s
  · rw [if_pos ((q1 _ _ hr hs).mpr a), if_pos a]
    by_cases b : k = s
    · rw [if_pos ((q1 _ _ hk hs).mpr b), if_pos b]
      exact leaf _ _ (ix_wide (by omega))
    · rw [if_neg (fun h => b ((q1 _ _ hk hs).mp h)), if_neg b]
      exact leaf _ _ rfl
  · rw [if_neg (fun h => a ((q1 _ _ hr hs).mp h)), if_neg a]
    by_cases b : k = r
    · rw [if_pos ((q1 _ _ hk hr).mpr b), if_pos b]
      exact leaf _ _ rfl
    · rw [if_neg (fun h => b ((q1 _ _ hk hr).mp h)), if_neg b]
      by_cases c : k = s
      · rw [if_pos ((q1 _ _ hk hs).mpr c), if_pos c, if_pos (ix_ok hr (by decide)), ix_nat (show r ≤ 2147483647 by omega), htc, ix_wide (show p ≤ 2147483647 by omega), if_pos (nn_hpl hp)]
        rw [← ix_wide (show p ≤ 2147483647 by omega)]
        refine leaf _ _ ?_
        rw [ix_wide (show p ≤ 2147483647 by omega), ← Int64.ofInt_mul, zl_rem ⟨by omega, by omega⟩ ⟨by omega, by omega⟩, Int.tmod_eq_emod_of_nonneg b2, Int64.ofInt_neg]
      · rw [if_neg (fun h => c ((q1 _ _ hk hs).mp h)), if_neg c]
        exact leaf _ _ rfl
theorem n153 {p r s : Nat} (hp : p = 3 ∨ p = 5 ∨ p = 7) (hr : r < 3) (hs : s < 3) {X g : Int} (hX : 0 ≤ X ∧ X ≤ 7) (hg : 1 ≤ g ∧ g ≤ 6) {tc : Nat → Int64} (htc : tc r = Int64.ofInt X) (K : (Nat → Int64) → O15) (n : Nat) (mk : Nat → Int64) : fX7_findNeighbour_L153 K (ix r) (ix p) (ix s) tc (Int64.ofInt g) (n + 4) 0 mk = K (up3 mk (3 * r) (Int64.ofInt ((p : Int) * kv p r s 0 X g)) (Int64.ofInt ((p : Int) * kv p r s 1 X g)) (Int64.ofInt ((p : Int) * kv p r s 2 X g))) := by
  rw [ix_0, n153_s hp hr hs (by decide) hX hg htc, n153_s hp hr hs (by decide) hX hg htc, n153_s hp hr hs (by decide) hX hg htc, fX7_findNeighbour_L153, if_pos (by decide)]
  rfl
theorem n144_s {p r s : Nat} (hp : p = 3 ∨ p = 5 ∨ p = 7) (hr : r < 3) (hs : s < 3) {X g : Int} (hX : 0 ≤ X ∧ X ≤ 7) (hg : 1 ≤ g ∧ g ≤ 6) {tc : Nat → Int64} (htc : tc r = Int64.ofInt X) (K : (Nat → Int64) → O15) (f n : Nat) (mk : Nat → Int64) : fX7_findNeighbour_L144 K (ix p) (ix s) tc (Int64.ofInt g) (f + 4) (n + 1) (ix r) mk = fX7_findNeighbour_L144 K (ix p) (ix s) tc (Int64.ofInt g) (f + 4) n (ix (r + 1)) (up3 mk (3 * r) (Int64.ofInt ((p : Int) * kv p r s 0 X g)) (Int64.ofInt ((p : Int) * kv p r s 1 X g)) (Int64.ofInt ((p : Int) * kv p r s 2 X g))) := by
  rw [fX7_findNeighbour_L144, if_neg (by rw [ix_3, ix_le (by decide) (by omega)]; omega)]
  simp only [nm_eq]
  rw [n153 hp hr hs hX hg htc, ix_1, ix_add]
def kvR (p r s : Nat) (X g : Int) : V3 := ((p : Int) * kv p r s 0 X g, (p : Int) * kv p r s 1 X g, (p : Int) * kv p r s 2 X g)
def up3v (m : Nat → Int64) (i : Nat) (v : V3) : Nat → Int64 := up3 m i (Int64.ofInt v.1) (Int64.ofInt v.2.1) (Int64.ofInt v.2.2)
theorem n144 {p s : Nat} (hp : p = 3 ∨ p = 5 ∨ p = 7) (hs : s < 3) {X : V3} {g : Int} (hX0 : 0 ≤ X.1 ∧ X.1 ≤ 7) (hX1 : 0 ≤ X.2.1 ∧ X.2.1 ≤ 7) (hX2 : 0 ≤ X.2.2 ∧ X.2.2 ≤ 7) (hg : 1 ≤ g ∧ g ≤ 6) {tc : Nat → Int64} (htc : avl tc 0 X) (K : (Nat → Int64) → O15) (f n : Nat) (mk : Nat → Int64) : fX7_findNeighbour_L144 K (ix p) (ix s) tc (Int64.ofInt g) (f + 4) (n + 4) 0 mk = K (up3v (up3v (up3v mk 0 (kvR p 0 s X.1 g)) 3 (kvR p 1 s X.2.1 g)) 6 (kvR p 2 s X.2.2 g)) := by
  obtain ⟨t0, t1, t2⟩ := htc
  rw [ix_0, n144_s hp (by decide) hs hX0 hg t0, n144_s hp (by decide) hs hX1 hg t1, n144_s hp (by decide) hs hX2 hg t2, fX7_findNeighbour_L144, if_pos (by decide)]
  rfl
theorem n257 {line : Nat → Int64} {p u t : Nat} (hp : p = 3 ∨ p = 5 ∨ p = 7) {l : V3} (hl : avl line 0 l) (hu : u < 3) (ht : t ≤ 1000) (K : (Nat → Int64) → O15) (n : Nat) (mk : Nat → Int64) : fX7_findNeighbour_L257 K (ix p) (ix t) (ix u) line (n + 4) 0 mk = K (up3v mk 9 (zW l p t u)) := by
  obtain ⟨d0, d1, d2⟩ := l7_lined hl hp hu ht
  have s0 : ∀ (n : Nat) (mk : Nat → Int64), fX7_findNeighbour_L257 K (ix p) (ix t) (ix u) line (n + 1) 0 mk = fX7_findNeighbour_L257 K (ix p) (ix t) (ix u) line n 1 (vp_updL mk 9 (Int64.ofInt (zW l p t u).1)) := by
    intro n mk
    have cN : ((9 : Int32) + 0).toNatClampNeg = 9 := by decide
    rw [fX7_findNeighbour_L257, if_neg (by decide), d0]
    simp only [nm_eq, bd1_s, cN]
    rw [if_pos (by decide)]
    rfl
  have s1 : ∀ (n : Nat) (mk : Nat → Int64), fX7_findNeighbour_L257 K (ix p) (ix t) (ix u) line (n + 1) 1 mk = fX7_findNeighbour_L257 K (ix p) (ix t) (ix u) line n 2 (vp_updL mk 10 (Int64.ofInt (zW l p t u).2.1)) := by
    intro n mk
    have cN : ((9 : Int32) + 1).toNatClampNeg = 10 := by decide
    rw [fX7_findNeighbour_L257, if_neg (by decide), d1]
    simp only [nm_eq, bd1_s, cN]
    rw [if_pos (by decide)]
    rfl
  have s2 : ∀ (n : Nat) (mk : Nat → Int64), fX7_findNeighbour_L257 K (ix p) (ix t) (ix u) line (n + 1) 2 mk = fX7_findNeighbour_L257 K (ix p) (ix t) (ix u) line n 3 (vp_updL mk 11 (Int64.ofInt (zW l p t u).2.2)) := by
    intro n mk
    have cN : ((9 : Int32) + 2).toNatClampNeg = 11 := by decide
    rw [fX7_findNeighbour_L257, if_neg (by decide), d2]
    simp only [nm_eq, bd1_s, cN]
    rw [if_pos (by decide)]
    rfl
  rw [s0, s1, s2, fX7_findNeighbour_L257, if_pos (by decide)]
  rfl
theorem n305_s {Q : F6} {q mk : Nat → Int64} (hq : al6 q Q) {R : Nat → V3} (hm : am mk R) {B : Int} (hB : 0 < B ∧ B ≤ 49) {r : Nat} (hr : r < 3) {D : Int} (hD : qf_val Q (R r) = B * D) (hv : rL (qf_val Q (R r))) (K : (Nat → Int64) → O15) (n : Nat) (md : Nat → Int64) : fX7_findNeighbour_L305 K q mk (Int64.ofInt B) (n + 1) (ix r) md = fX7_findNeighbour_L305 K q mk (Int64.ofInt B) n (ix (r + 1)) (vp_updL md r (Int64.ofInt D)) := by
  obtain ⟨m0, m1, m2⟩ := hm r (by omega)
  have hb0 : ¬ Int64.ofInt B = 0 := by rw [zl_0, zl_eq ⟨by omega, by omega⟩ ⟨by omega, by omega⟩]; omega
  have hval : fX7_valueOf q (mk (3 * r)) (mk (3 * r + 1)) (mk (3 * r + 2)) = some (Int64.ofInt (qf_val Q (R r))) := by rw [m0, m1, m2]; exact l7_val hq _
  have i0 : (3 : Int32) * ix r = ix (3 * r) := by rw [ix_3, ix_mul]
  have i1 : (3 : Int32) * ix r + 1 = ix (3 * r + 1) := by rw [i0, ix_1, ix_add]
  have i2 : (3 : Int32) * ix r + 2 = ix (3 * r + 2) := by rw [i0, ix_2, ix_add]
  rw [fX7_findNeighbour_L305, if_neg (by rw [ix_3, ix_le (by decide) (by omega)]; omega)]
  simp only [nm_eq, i1, i2]
  simp only [i0]
  rw [if_pos (ix_ok (by omega) (by decide)), if_pos (ix_ok (by omega) (by decide)), if_pos (ix_ok (by omega) (by decide))]
  simp only [ix_nat (show 3 * r ≤ 2147483647 by omega), ix_nat (show 3 * r + 1 ≤ 2147483647 by omega), ix_nat (show 3 * r + 2 ≤ 2147483647 by omega), ix_nat (show r ≤ 2147483647 by omega)]
  rw [hval, bd1_s, if_pos hb0, if_pos (ix_ok (by omega) (by decide)), zl_div ⟨by omega, by omega⟩ ⟨by omega, by omega⟩, hD, Int.mul_tdiv_cancel_left D (by omega), ix_1, ix_add]
theorem n305 {Q : F6} {q mk : Nat → Int64} (hq : al6 q Q) {R : Nat → V3} (hm : am mk R) {B : Int} (hB : 0 < B ∧ B ≤ 49) {D0 D1 D2 : Int} (h0 : qf_val Q (R 0) = B * D0) (h1 : qf_val Q (R 1) = B * D1) (h2 : qf_val Q (R 2) = B * D2) (hv0 : rL (qf_val Q (R 0))) (hv1 : rL (qf_val Q (R 1))) (hv2 : rL (qf_val Q (R 2))) (K : (Nat → Int64) → O15) (n : Nat) (md : Nat → Int64) : fX7_findNeighbour_L305 K q mk (Int64.ofInt B) (n + 4) 0 md = K (up3 md 0 (Int64.ofInt D0) (Int64.ofInt D1) (Int64.ofInt D2)) := by
  rw [ix_0, n305_s hq hm hB (by decide) h0 hv0, n305_s hq hm hB (by decide) h1 hv1, n305_s hq hm hB (by decide) h2 hv2, fX7_findNeighbour_L305, if_pos (by decide)]
  rfl
theorem n365_0 {Q : F6} {q mk : Nat → Int64} (hq : al6 q Q) {R : Nat → V3} (hm : am mk R) {B : Int} (hB : 0 < B ∧ B ≤ 49) {D : Int} (hD : qf_tch Q (R 1) (R 2) = B * D) (hv : rL (qf_tch Q (R 1) (R 2))) (K : (Nat → Int64) → O15) (n : Nat) (md : Nat → Int64) : fX7_findNeighbour_L365 K q mk (Int64.ofInt B) (n + 1) 0 md = fX7_findNeighbour_L365 K q mk (Int64.ofInt B) n 1 (vp_updL md 3 (Int64.ofInt D)) := by
  obtain ⟨m0, m1, m2⟩ := hm 1 (by omega)
  obtain ⟨k0, k1, k2⟩ := hm 2 (by omega)
  have hb0 : ¬ Int64.ofInt B = 0 := by rw [zl_0, zl_eq ⟨by omega, by omega⟩ ⟨by omega, by omega⟩]; omega
  have hval : fX7_touchOf q (mk 3) (mk 4) (mk 5) (mk 6) (mk 7) (mk 8) = some (Int64.ofInt (qf_tch Q (R 1) (R 2))) := by
    have e0 : mk 3 = Int64.ofInt (R 1).1 := m0
    have e1 : mk 4 = Int64.ofInt (R 1).2.1 := m1
    have e2 : mk 5 = Int64.ofInt (R 1).2.2 := m2
    have e3 : mk 6 = Int64.ofInt (R 2).1 := k0
    have e4 : mk 7 = Int64.ofInt (R 2).2.1 := k1
    have e5 : mk 8 = Int64.ofInt (R 2).2.2 := k2
    rw [e0, e1, e2, e3, e4, e5]
    exact l7_tch hq _ _
  have cA : ((0 : Int32) = 0) = True := eq_self _
  have cC : ((0 : Int32) = 2) = False := eq_false (by decide)
  have cD : ((3 : Int32) ≤ 0) = False := eq_false (by decide)
  have N0 : ((3 : Int32) * 1).toNatClampNeg = 3 := by decide
  have N1 : ((3 : Int32) * 1 + 1).toNatClampNeg = 4 := by decide
  have N2 : ((3 : Int32) * 1 + 2).toNatClampNeg = 5 := by decide
  have N3 : ((3 : Int32) * 2).toNatClampNeg = 6 := by decide
  have N4 : ((3 : Int32) * 2 + 1).toNatClampNeg = 7 := by decide
  have N5 : ((3 : Int32) * 2 + 2).toNatClampNeg = 8 := by decide
  have N6 : ((3 : Int32) + 0).toNatClampNeg = 3 := by decide
  have cS : (0 : Int32) + 1 = 1 := rfl
  rw [fX7_findNeighbour_L365]
  simp only [nm_eq, cA, cC, cD, ↓reduceIte, N0, N1, N2, N3, N4, N5, N6, cS]
  rw [if_pos (by decide), if_pos (by decide), if_pos (by decide), if_pos (by decide), if_pos (by decide), if_pos (by decide), hval, bd1_s, if_pos hb0, if_pos (by decide), zl_div ⟨by omega, by omega⟩ ⟨by omega, by omega⟩, hD, Int.mul_tdiv_cancel_left D (by omega)]
theorem n365_1 {Q : F6} {q mk : Nat → Int64} (hq : al6 q Q) {R : Nat → V3} (hm : am mk R) {B : Int} (hB : 0 < B ∧ B ≤ 49) {D : Int} (hD : qf_tch Q (R 0) (R 2) = B * D) (hv : rL (qf_tch Q (R 0) (R 2))) (K : (Nat → Int64) → O15) (n : Nat) (md : Nat → Int64) : fX7_findNeighbour_L365 K q mk (Int64.ofInt B) (n + 1) 1 md = fX7_findNeighbour_L365 K q mk (Int64.ofInt B) n 2 (vp_updL md 4 (Int64.ofInt D)) := by
  obtain ⟨m0, m1, m2⟩ := hm 0 (by omega)
  obtain ⟨k0, k1, k2⟩ := hm 2 (by omega)
  have hb0 : ¬ Int64.ofInt B = 0 := by rw [zl_0, zl_eq ⟨by omega, by omega⟩ ⟨by omega, by omega⟩]; omega
  have hval : fX7_touchOf q (mk 0) (mk 1) (mk 2) (mk 6) (mk 7) (mk 8) = some (Int64.ofInt (qf_tch Q (R 0) (R 2))) := by
    have e0 : mk 0 = Int64.ofInt (R 0).1 := m0
    have e1 : mk 1 = Int64.ofInt (R 0).2.1 := m1
    have e2 : mk 2 = Int64.ofInt (R 0).2.2 := m2
    have e3 : mk 6 = Int64.ofInt (R 2).1 := k0
    have e4 : mk 7 = Int64.ofInt (R 2).2.1 := k1
    have e5 : mk 8 = Int64.ofInt (R 2).2.2 := k2
    rw [e0, e1, e2, e3, e4, e5]
    exact l7_tch hq _ _
  have cA : ((1 : Int32) = 0) = False := eq_false (by decide)
  have cC : ((1 : Int32) = 2) = False := eq_false (by decide)
  have cD : ((3 : Int32) ≤ 1) = False := eq_false (by decide)
  have N0 : ((3 : Int32) * 0).toNatClampNeg = 0 := by decide
  have N1 : ((3 : Int32) * 0 + 1).toNatClampNeg = 1 := by decide
  have N2 : ((3 : Int32) * 0 + 2).toNatClampNeg = 2 := by decide
  have N3 : ((3 : Int32) * 2).toNatClampNeg = 6 := by decide
  have N4 : ((3 : Int32) * 2 + 1).toNatClampNeg = 7 := by decide
  have N5 : ((3 : Int32) * 2 + 2).toNatClampNeg = 8 := by decide
  have N6 : ((3 : Int32) + 1).toNatClampNeg = 4 := by decide
  have cS : (1 : Int32) + 1 = 2 := rfl
  rw [fX7_findNeighbour_L365]
  simp only [nm_eq, cA, cC, cD, ↓reduceIte, N0, N1, N2, N3, N4, N5, N6, cS]
  rw [if_pos (by decide), if_pos (by decide), if_pos (by decide), if_pos (by decide), if_pos (by decide), if_pos (by decide), hval, bd1_s, if_pos hb0, if_pos (by decide), zl_div ⟨by omega, by omega⟩ ⟨by omega, by omega⟩, hD, Int.mul_tdiv_cancel_left D (by omega)]
theorem n365_2 {Q : F6} {q mk : Nat → Int64} (hq : al6 q Q) {R : Nat → V3} (hm : am mk R) {B : Int} (hB : 0 < B ∧ B ≤ 49) {D : Int} (hD : qf_tch Q (R 0) (R 1) = B * D) (hv : rL (qf_tch Q (R 0) (R 1))) (K : (Nat → Int64) → O15) (n : Nat) (md : Nat → Int64) : fX7_findNeighbour_L365 K q mk (Int64.ofInt B) (n + 1) 2 md = fX7_findNeighbour_L365 K q mk (Int64.ofInt B) n 3 (vp_updL md 5 (Int64.ofInt D)) := by
  obtain ⟨m0, m1, m2⟩ := hm 0 (by omega)
  obtain ⟨k0, k1, k2⟩ := hm 1 (by omega)
  have hb0 : ¬ Int64.ofInt B = 0 := by rw [zl_0, zl_eq ⟨by omega, by omega⟩ ⟨by omega, by omega⟩]; omega
  have hval : fX7_touchOf q (mk 0) (mk 1) (mk 2) (mk 3) (mk 4) (mk 5) = some (Int64.ofInt (qf_tch Q (R 0) (R 1))) := by
    have e0 : mk 0 = Int64.ofInt (R 0).1 := m0
    have e1 : mk 1 = Int64.ofInt (R 0).2.1 := m1
    have e2 : mk 2 = Int64.ofInt (R 0).2.2 := m2
    have e3 : mk 3 = Int64.ofInt (R 1).1 := k0
    have e4 : mk 4 = Int64.ofInt (R 1).2.1 := k1
    have e5 : mk 5 = Int64.ofInt (R 1).2.2 := k2
    rw [e0, e1, e2, e3, e4, e5]
    exact l7_tch hq _ _
  have cA : ((2 : Int32) = 0) = False := eq_false (by decide)
  have cC : ((2 : Int32) = 2) = True := eq_self _
  have cD : ((3 : Int32) ≤ 2) = False := eq_false (by decide)
  have N0 : ((3 : Int32) * 0).toNatClampNeg = 0 := by decide
  have N1 : ((3 : Int32) * 0 + 1).toNatClampNeg = 1 := by decide
  have N2 : ((3 : Int32) * 0 + 2).toNatClampNeg = 2 := by decide
  have N3 : ((3 : Int32) * 1).toNatClampNeg = 3 := by decide
  have N4 : ((3 : Int32) * 1 + 1).toNatClampNeg = 4 := by decide
  have N5 : ((3 : Int32) * 1 + 2).toNatClampNeg = 5 := by decide
  have N6 : ((3 : Int32) + 2).toNatClampNeg = 5 := by decide
  have cS : (2 : Int32) + 1 = 3 := rfl
  rw [fX7_findNeighbour_L365]
  simp only [nm_eq, cA, cC, cD, ↓reduceIte, N0, N1, N2, N3, N4, N5, N6, cS]
  rw [if_pos (by decide), if_pos (by decide), if_pos (by decide), if_pos (by decide), if_pos (by decide), if_pos (by decide), hval, bd1_s, if_pos hb0, if_pos (by decide), zl_div ⟨by omega, by omega⟩ ⟨by omega, by omega⟩, hD, Int.mul_tdiv_cancel_left D (by omega)]
theorem n365 {Q : F6} {q mk : Nat → Int64} (hq : al6 q Q) {R : Nat → V3} (hm : am mk R) {B : Int} (hB : 0 < B ∧ B ≤ 49) {D3 D4 D5 : Int} (h0 : qf_tch Q (R 1) (R 2) = B * D3) (h1 : qf_tch Q (R 0) (R 2) = B * D4) (h2 : qf_tch Q (R 0) (R 1) = B * D5) (hv0 : rL (qf_tch Q (R 1) (R 2))) (hv1 : rL (qf_tch Q (R 0) (R 2))) (hv2 : rL (qf_tch Q (R 0) (R 1))) (K : (Nat → Int64) → O15) (n : Nat) (md : Nat → Int64) : fX7_findNeighbour_L365 K q mk (Int64.ofInt B) (n + 4) 0 md = K (up3 md 3 (Int64.ofInt D3) (Int64.ofInt D4) (Int64.ofInt D5)) := by
  rw [n365_0 hq hm hB h0 hv0, n365_1 hq hm hB h1 hv1, n365_2 hq hm hB h2 hv2, fX7_findNeighbour_L365, if_pos (by decide)]
  rfl
theorem n483_s (K : (Nat → Int64) → O15) (md : Nat → Int64) (n : Nat) {i : Nat} (hi : i < 6) (q : Nat → Int64) : fX7_findNeighbour_L483 K md (n + 1) (ix i) q = fX7_findNeighbour_L483 K md n (ix (i + 1)) (vp_updL q i (md i)) := by
  rw [fX7_findNeighbour_L483, if_neg (by rw [ix_6, ix_le (by decide) (by omega)]; omega), if_pos (ix_ok hi (by decide)), if_pos (ix_ok hi (by decide))]
  simp only [nm_eq, ix_nat (show i ≤ 2147483647 by omega)]
  rw [ix_1, ix_add]
theorem n483 (K : (Nat → Int64) → O15) (md : Nat → Int64) (n : Nat) (q : Nat → Int64) : fX7_findNeighbour_L483 K md (n + 7) 0 q = K (up3 (up3 q 0 (md 0) (md 1) (md 2)) 3 (md 3) (md 4) (md 5)) := by
  rw [ix_0, n483_s K md _ (by decide), n483_s K md _ (by decide), n483_s K md _ (by decide), n483_s K md _ (by decide), n483_s K md _ (by decide), n483_s K md _ (by decide), fX7_findNeighbour_L483, if_pos (by decide)]
  rfl
