/-! lines: the class's find -/
def lnf (Q : F6) (p : Nat) (vis : List V3) : List V3 := vis.filter (fun v => decide (qf_val Q v % (p : Int) = 0))
def lw_I (Q : F6) (p : Nat) (vis : List V3) (found : Int32) (all : Nat → Int32) : Prop := found = ix (min (lnf Q p vis).length 8) ∧ ∀ (m : Nat) (v : V3), m < 8 → (lnf Q p vis)[m]? = some v → av all (3 * m) v
theorem lnf_app (Q : F6) (p : Nat) (vis : List V3) (v : V3) : lnf Q p (vis ++ [v]) = if qf_val Q v % (p : Int) = 0 then lnf Q p vis ++ [v] else lnf Q p vis := by
  unfold lnf
  rw [List.filter_append]
  by_cases h : qf_val Q v % (p : Int) = 0 <;> simp [h]
theorem x2_findOne {Q : F6} {p : Nat} (hp : p = 3 ∨ p = 5 ∨ p = 7) {six : Nat → Int32} (hs : a6 six Q) {v : V3} (hv : rI (qf_val Q v)) {vis : List V3} {found : Int32} {all : Nat → Int32} (hI : lw_I Q p vis found all) : ∃ f' a', fX2_findOne found (ix p) six all (Int32.ofInt v.1) (Int32.ofInt v.2.1) (Int32.ofInt v.2.2) = some (f', a') ∧ lw_I Q p (vis ++ [v]) f' a' := by
  obtain ⟨hf, ha⟩ := hI
  have e8 : (8 : Int32) = ix 8 := rfl
  unfold fX2_findOne
  simp only [nm_eq]
  by_cases h8 : 8 ≤ (lnf Q p vis).length
  · have hf8 : found = ix 8 := by rw [hf, Nat.min_eq_right h8]
    rw [if_pos (by rw [e8, hf8, ix_le (by decide) (by decide)]; exact Nat.le_refl _)]
    refine ⟨_, _, rfl, ?_, fun m w hm hw => ?_⟩
    · rw [hf8, lnf_app]
      split
      · rw [Nat.min_eq_right (by rw [List.length_append]; omega)]
      · rw [Nat.min_eq_right h8]
    · refine ha m w hm ?_
      rw [lnf_app] at hw
      split at hw
      · rwa [List.getElem?_append_left (by omega)] at hw
      · exact hw
  · have hfl : found = ix (lnf Q p vis).length := by rw [hf, Nat.min_eq_left (by omega)]
    rw [if_neg (by rw [e8, hfl, ix_le (by decide) (by omega)]; omega), x4_at hs v]
    simp only [bd1]
    have hp0 : ¬ ix p = 0 := by rw [ix_0, ix_eq (by omega) (by omega)]; omega
    rw [if_pos hp0]
    have hd := zi_dvd (a := qf_val Q v) (b := (p : Int)) hv ⟨by omega, by omega⟩ (by omega)
    have hd2 : (Int32.ofInt (qf_val Q v) - Int32.ofInt (qf_val Q v) / ix p * ix p = 0) ↔ qf_val Q v % (p : Int) = 0 := by
      unfold ix
      rw [hd]
      exact ⟨Int.emod_eq_zero_of_dvd, Int.dvd_of_emod_eq_zero⟩
    by_cases hz : qf_val Q v % (p : Int) = 0
    · rw [if_pos (hd2.mpr hz), hfl, ix_1, ix_2, ix_3, ix_mul, ix_add, ix_add, ix_add, if_pos (ix_ok (by omega) (by decide)), if_pos (ix_ok (by omega) (by decide)), if_pos (ix_ok (by omega) (by decide)), ix_nat (by omega), ix_nat (by omega), ix_nat (by omega)]
      refine ⟨_, _, rfl, ?_, fun m w hm hw => ?_⟩
      · rw [lnf_app, if_pos hz, List.length_append, Nat.min_eq_left (by simp only [List.length_cons, List.length_nil]; omega)]
        rfl
      · rw [lnf_app, if_pos hz] at hw
        by_cases e : m = (lnf Q p vis).length
        · subst e
          rw [List.getElem?_append_right (Nat.le_refl _), Nat.sub_self] at hw
          have : v = w := by simpa using hw
          subst this
          refine ⟨?_, ?_, ?_⟩
          · rw [upd_n _ _ (by omega), upd_n _ _ (by omega), upd_s]
          · rw [upd_n _ _ (by omega), upd_s]
          · rw [upd_s]
        · have hlt := (List.getElem?_eq_some_iff.mp hw).1
          simp only [List.length_append, List.length_cons, List.length_nil] at hlt
          rw [List.getElem?_append_left (by omega)] at hw
          obtain ⟨g0, g1, g2⟩ := ha m w hm hw
          refine ⟨?_, ?_, ?_⟩
          · rw [upd_n _ _ (by omega), upd_n _ _ (by omega), upd_n _ _ (by omega)]; exact g0
          · rw [upd_n _ _ (by omega), upd_n _ _ (by omega), upd_n _ _ (by omega)]; exact g1
          · rw [upd_n _ _ (by omega), upd_n _ _ (by omega), upd_n _ _ (by omega)]; exact g2
    · rw [if_neg (fun h => hz (hd2.mp h))]
      refine ⟨_, _, rfl, ?_, ?_⟩
      · rw [lnf_app, if_neg hz]; exact hf
      · rw [lnf_app, if_neg hz]; exact ha
def v7 (v : V3) : Prop := (0 ≤ v.1 ∧ v.1 ≤ 7) ∧ (0 ≤ v.2.1 ∧ v.2.1 ≤ 7) ∧ (0 ≤ v.2.2 ∧ v.2.2 ≤ 7)
theorem x2_L31 {Q : F6} {p : Nat} (hp : p = 3 ∨ p = 5 ∨ p = 7) {six : Nat → Int32} (hs : a6 six Q) (hv : ∀ v, v7 v → rI (qf_val Q v)) (k52 : Int32 → (Nat → Int32) → Option (Int32 × Int32 × (Nat → Int32) × (Nat → Int32))) : ∀ (k n z : Nat) (vis : List V3) (found : Int32) (all : Nat → Int32), z + k = p → k + 1 ≤ n → lw_I Q p vis found all → ∃ f' a', fX2_find_L31 (ix p) k52 six n (ix z) found all = k52 f' a' ∧ lw_I Q p (vis ++ (iv k (z : Int)).map (fun z => (0, 1, z))) f' a' := by
  intro k
  induction k with
  | zero =>
    intro n z vis found all e1 e2 hI
    obtain ⟨n, rfl⟩ : ∃ j, n = j + 1 := ⟨n - 1, by omega⟩
    rw [fX2_find_L31, if_pos (by rw [ix_le (by omega) (by omega)]; omega)]
    exact ⟨_, _, rfl, by simpa [iv] using hI⟩
  | succ k ih =>
    intro n z vis found all e1 e2 hI
    obtain ⟨n, rfl⟩ : ∃ j, n = j + 1 := ⟨n - 1, by omega⟩
    obtain ⟨f', a', g1, g2⟩ := x2_findOne hp hs (v := (0, 1, (z : Int))) (hv _ ⟨by dsimp only; omega, by dsimp only; omega, by dsimp only; omega⟩) hI
    obtain ⟨f2, a2, g3, g4⟩ := ih n (z + 1) _ f' a' (by omega) (by omega) g2
    refine ⟨f2, a2, ?_, ?_⟩
    · rw [fX2_find_L31, if_neg (by rw [ix_le (by omega) (by omega)]; omega)]
      have g1' : fX2_findOne found (ix p) six all 0 1 (ix z) = some (f', a') := g1
      rw [g1']
      simp only [bd2, nm_eq]
      rw [ix_1, ix_add]
      exact g3
    · rw [iv, List.map_cons]
      rw [List.append_assoc] at g4
      exact g4
theorem x2_L65 {Q : F6} {p : Nat} (hp : p = 3 ∨ p = 5 ∨ p = 7) {six : Nat → Int32} (hs : a6 six Q) (hv : ∀ v, v7 v → rI (qf_val Q v)) {y : Nat} (hy : y < p) (k88 : Int32 → (Nat → Int32) → Option (Int32 × Int32 × (Nat → Int32) × (Nat → Int32))) : ∀ (k n z : Nat) (vis : List V3) (found : Int32) (all : Nat → Int32), z + k = p → k + 1 ≤ n → lw_I Q p vis found all → ∃ f' a', fX2_find_L65 (ix p) k88 six (ix y) n (ix z) found all = k88 f' a' ∧ lw_I Q p (vis ++ (iv k (z : Int)).map (fun z => (1, (y : Int), z))) f' a' := by
  intro k
  induction k with
  | zero =>
    intro n z vis found all e1 e2 hI
    obtain ⟨n, rfl⟩ : ∃ j, n = j + 1 := ⟨n - 1, by omega⟩
    rw [fX2_find_L65, if_pos (by rw [ix_le (by omega) (by omega)]; omega)]
    exact ⟨_, _, rfl, by simpa [iv] using hI⟩
  | succ k ih =>
    intro n z vis found all e1 e2 hI
    obtain ⟨n, rfl⟩ : ∃ j, n = j + 1 := ⟨n - 1, by omega⟩
    obtain ⟨f', a', g1, g2⟩ := x2_findOne hp hs (v := (1, (y : Int), (z : Int))) (hv _ ⟨by dsimp only; omega, by dsimp only; omega, by dsimp only; omega⟩) hI
    obtain ⟨f2, a2, g3, g4⟩ := ih n (z + 1) _ f' a' (by omega) (by omega) g2
    refine ⟨f2, a2, ?_, ?_⟩
    · rw [fX2_find_L65, if_neg (by rw [ix_le (by omega) (by omega)]; omega)]
      have g1' : fX2_findOne found (ix p) six all 1 (ix y) (ix z) = some (f', a') := g1
      rw [g1']
      simp only [bd2, nm_eq]
      rw [ix_1, ix_add]
      exact g3
    · rw [iv, List.map_cons]
      rw [List.append_assoc] at g4
      exact g4
theorem x2_L54 {Q : F6} {p : Nat} (hp : p = 3 ∨ p = 5 ∨ p = 7) {six : Nat → Int32} (hs : a6 six Q) (hv : ∀ v, v7 v → rI (qf_val Q v)) {F : Nat} (hF : 100 ≤ F) : ∀ (k n y : Nat) (vis : List V3) (found : Int32) (all : Nat → Int32), y + k = p → k + 1 ≤ n → lw_I Q p vis found all → ∃ f' a', fX2_find_L54 (ix p) six F n (ix y) found all = some (f', ix p, six, a') ∧ lw_I Q p (vis ++ (iv k (y : Int)).flatMap (fun y => pt3 p y)) f' a' := by
  intro k
  induction k with
  | zero =>
    intro n z vis found all e1 e2 hI
    obtain ⟨n, rfl⟩ : ∃ j, n = j + 1 := ⟨n - 1, by omega⟩
    rw [fX2_find_L54, if_pos (by rw [ix_le (by omega) (by omega)]; omega)]
    exact ⟨_, _, rfl, by simpa [iv] using hI⟩
  | succ k ih =>
    intro n y vis found all e1 e2 hI
    obtain ⟨n, rfl⟩ : ∃ j, n = j + 1 := ⟨n - 1, by omega⟩
    obtain ⟨f', a', g1, g2⟩ := x2_L65 hp hs hv (y := y) (by omega) (fun f a => fX2_find_L54 (ix p) six F n (ix (y + 1)) f a) p F 0 vis found all (by omega) (by omega) hI
    obtain ⟨f2, a2, g3, g4⟩ := ih n (y + 1) _ f' a' (by omega) (by omega) g2
    refine ⟨f2, a2, ?_, ?_⟩
    · rw [fX2_find_L54, if_neg (by rw [ix_le (by omega) (by omega)]; omega)]
      simp only [nm_eq, ix_1, ix_add]
      exact g1.trans g3
    · rw [iv, List.flatMap_cons, ← List.append_assoc]
      exact g4
theorem x2_find {Q : F6} {p : Nat} (hp : p = 3 ∨ p = 5 ∨ p = 7) {num : Nat → Int32} (hn : a6 num Q) (hv : ∀ v, v7 v → rI (qf_val Q v)) (s0 all0 : Nat → Int32) {F : Nat} (hF : 100 ≤ F) : ∃ f' s' a', fX2_find F s0 all0 num (ix p) = some (f', ix p, s', a') ∧ a6 s' Q ∧ ∀ (m : Nat) (v : V3), m < 8 → (lns Q p)[m]? = some v → av a' (3 * m) v := by
  have hs0 : a6 (va_cpy num s0 0 0 6) Q := by
    obtain ⟨g0, g1, g2, g3, g4, g5⟩ := hn
    refine ⟨?_, ?_, ?_, ?_, ?_, ?_⟩ <;> simp [va_cpy, *]
  have h0 : lw_I Q p [] 0 all0 := ⟨rfl, fun m v hm hw => by simp [lnf] at hw⟩
  obtain ⟨f1, a1, e1, h1⟩ := x2_findOne hp hs0 (v := (0, 0, 1)) (hv _ ⟨by decide, by decide, by decide⟩) h0
  obtain ⟨f2, a2, e2, h2⟩ := x2_L31 hp hs0 hv (fun f a => fX2_find_L54 (ix p) (va_cpy num s0 0 0 6) F F 0 f a) p F 0 _ f1 a1 (by omega) (by omega) h1
  obtain ⟨f3, a3, e3, h3⟩ := x2_L54 hp hs0 hv hF p F 0 _ f2 a2 (by omega) (by omega) h2
  refine ⟨f3, va_cpy num s0 0 0 6, a3, ?_, hs0, fun m v hm hw => h3.2 m v hm ?_⟩
  · unfold fX2_find
    simp only [nm_eq]
    have e1' : fX2_findOne 0 (ix p) (va_cpy num s0 0 0 6) all0 0 0 1 = some (f1, a1) := e1
    rw [e1']
    simp only [bd2]
    exact e2.trans e3
  · have e9 : ([] ++ [((0 : Int), (0 : Int), (1 : Int))] ++ (iv p ((0 : Nat) : Int)).map (fun z => ((0 : Int), (1 : Int), z))) ++ (iv p ((0 : Nat) : Int)).flatMap (fun y => pt3 p y) = ptsP p := by
      unfold ptsP pt1 pt2
      rw [List.nil_append, List.append_assoc]
      rfl
    rw [e9]
    exact hw
