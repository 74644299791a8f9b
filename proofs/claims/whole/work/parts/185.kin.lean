/-! kin: what both sides list -/
theorem qs_S {L : F6} (hS : qr_S L) (hD : qf_disc L ≤ 6912) : qs_ L := by
  have h := qr_abc hS
  obtain ⟨h1, h2, h3, h4, h5, h6, _⟩ := hS
  have ab1 := Int.mul_pos h1 (show 0 < L.2.1 by omega)
  have c1 := Int.mul_le_mul_of_nonneg_right (show (1 : Int) ≤ L.1 * L.2.1 by omega) (show 0 ≤ L.2.2.1 by omega)
  refine ⟨?_, ?_, ?_, ?_, ?_, ?_⟩ <;> omega
theorem qs_l6 {L : F6} (h : qs_ L) : ∀ x ∈ l6 L, rI x := by
  obtain ⟨h1, h2, h3, h4, h5, h6⟩ := h
  intro x hx
  simp only [l6, List.mem_cons, List.not_mem_nil, or_false] at hx
  rcases hx with e | e | e | e | e | e <;> subst e <;> constructor <;> omega
theorem zW_nv {l : V3} (h : v7 l) (p t u : Nat) : nv (zW l p t u) := by
  obtain ⟨⟨a, _⟩, ⟨b, _⟩, ⟨c, _⟩⟩ := h
  have hpt : (0 : Int) ≤ (p : Int) * t := Int.mul_nonneg (by omega) (by omega)
  unfold nv zW un
  dsimp only
  split
  · simp; omega
  · split
    · simp; omega
    · simp; omega
theorem rI_val {Q : F6} (hq : qs_ Q) (v : V3) (hv : v7 v) : rI (qf_val Q v) := by
  have h := qs_val hq (v := v) ⟨by have := hv.1; omega, by have := hv.2.1; omega, by have := hv.2.2; omega⟩
  exact ⟨by omega, by omega⟩
/-- the class: a line chosen, crossed, settled -/
theorem x2_nb {Q : F6} (hQ : qf_pd Q) (hqs : qs_ Q) {p i : Nat} (hp : p = 3 ∨ p = 5 ∨ p = 7) (hi : i ≤ p) (hdv : ¬ (p : Int) ∣ qf_disc Q) {six all box : Nat → Int32} (hs : a6 six Q) (hall : ∀ (m : Nat) (v : V3), m < 8 → (lns Q p)[m]? = some v → av all (3 * m) v) (hbx : bxA box) (w0 b0 c0 s0 r0 wo im be br : Nat → Int32) {F : Nat} (hF : 1000000 ≤ F) : ∃ lt lu w' b' c' s' r' wo' im' be' br' L n, fX2_choose F (ix p) six all w0 (ix i) = some (lt, lu, w') ∧ fX2_cross F (ix p) lu six w' b0 c0 = some (b', c') ∧ fX3_settle F s0 r0 box wo im be br c' = some (ix n, s', r', wo', im', be', br') ∧ NB Q p i L n ∧ a6 be' L := by
  obtain ⟨l, u, t, h⟩ := LN_ex hp hdv hi
  obtain ⟨w', e1, hw, hl7⟩ := x2_choose hp hs hqs hall (by omega) h w0 (show 100 ≤ F by omega)
  obtain ⟨b', c', e2, hc⟩ := x2_cross hp h hs hqs hw (zW_60 hp hl7 h.2.2.2.2.1) (zW_nv hl7 p t u) b0 c0 (show 100 ≤ F by omega)
  obtain ⟨k1, k2, k3, k4, k5, k6⟩ := crsL_all hp h hQ hqs
  obtain ⟨tt, s', r', wo', im', be', br', e3, L, T, n, g1, g2, g3, g4, g5⟩ := x3_settle k1 k3 k4 k5 k6 hc hbx s0 r0 wo im be br hF
  subst g3
  exact ⟨_, _, w', b', c', s', r', wo', im', be', br', L, n, e1, e2, e3, ⟨l, u, t, T, h, g1⟩, g4⟩
theorem x2_all {Q : F6} (hqs : qs_ Q) {p : Nat} (hp : p = 3 ∨ p = 5 ∨ p = 7) {num : Nat → Int32} (hn : a6 num Q) (s0 all0 : Nat → Int32) {F : Nat} (hF : 100 ≤ F) : ∃ f' s' a', fX2_find F s0 all0 num (ix p) = some (f', ix p, s', a') ∧ a6 s' Q ∧ ∀ (m : Nat) (v : V3), m < 8 → (lns Q p)[m]? = some v → av a' (3 * m) v := x2_find hp hn (fun v hv => rI_val hqs v hv) s0 all0 hF
/-- the neighbour across line i, told by a function -/
noncomputable def nbL (Q : F6) (p i : Nat) : F6 × Nat := Classical.epsilon (fun x : F6 × Nat => NB Q p i x.1 x.2)
theorem nbL_of {Q : F6} {p i : Nat} {L : F6} {n : Nat} (h : NB Q p i L n) : nbL Q p i = (L, n) := by
  have h1 : NB Q p i (nbL Q p i).1 (nbL Q p i).2 := Classical.epsilon_spec (p := fun x : F6 × Nat => NB Q p i x.1 x.2) ⟨(L, n), h⟩
  obtain ⟨e1, e2⟩ := NB_eq h1 h
  exact Prod.ext e1 e2
/-- the place of a form in a list of kin -/
def plN : List (F6 × Nat) → F6 → Nat → Option Nat
  | [], _, _ => none
  | x :: xs, L, j => if x.1 = L then some j else plN xs L (j + 1)
def plI : Option Nat → Int32
  | none => -1
  | some j => ix j
theorem plN_lt {L : F6} : ∀ (ms : List (F6 × Nat)) (j k : Nat), plN ms L j = some k → j ≤ k ∧ k < j + ms.length
  | [], j, k, h => by cases h
  | x :: xs, j, k, h => by
    rw [plN] at h
    by_cases g : x.1 = L
    · rw [if_pos g] at h
      cases h
      exact ⟨Nat.le_refl _, by rw [List.length_cons]; omega⟩
    · rw [if_neg g] at h
      have := plN_lt xs (j + 1) k h
      rw [List.length_cons]
      omega
def inc (wy : Nat → Nat → Nat) (a b : Nat) : Nat → Nat → Nat := fun i j => if i = a ∧ j = b then wy i j + 1 else wy i j
abbrev KS : Type := List (F6 × Nat) × (Nat → Nat → Nat) × Bool
noncomputable def kad (ms : List (F6 × Nat)) (wy : Nat → Nat → Nat) (fr : Nat) (y : F6 × Nat) : KS := match plN ms y.1 0 with
  | some j => (ms, inc wy fr j, false)
  | none => if ms.length < 16 then (ms ++ [y], inc wy fr ms.length, false) else (ms, wy, true)
noncomputable def kadd (p fr : Nat) (K : KS) (i : Nat) : KS := if K.2.2 = true then K else match K.1[fr]? with
  | none => K
  | some x => kad K.1 K.2.1 fr (nbL x.1 p i)
noncomputable def kvis (p fr : Nat) : Nat → Nat → KS → KS
  | 0, _, K => K
  | k + 1, i, K => kvis p fr k (i + 1) (kadd p fr K i)
noncomputable def krun (p : Nat) : Nat → Nat → KS → KS
  | 0, _, K => K
  | n + 1, fr, K => if K.1.length ≤ fr then K else if K.2.2 = true then K else krun p n (fr + 1) (kvis p fr (p + 1) 0 K)
noncomputable def kinOf (p : Nat) (L : F6) (n : Nat) : KS := krun p 16 0 ([(L, n)], fun _ _ => 0, false)
/-- what holds of every list of kin -/
def Kg (D : Int) (K : KS) : Prop := 1 ≤ K.1.length ∧ K.1.length ≤ 16 ∧ (∀ x ∈ K.1, qr_S x.1 ∧ qf_pd x.1 ∧ qf_disc x.1 = D ∧ x.2 ∣ 48 ∧ 0 < x.2) ∧ ∀ i j, K.1.length ≤ i → K.2.1 i j = 0
theorem kad_g {D : Int} {ms : List (F6 × Nat)} {wy : Nat → Nat → Nat} {b : Bool} (h : Kg D (ms, wy, b)) {fr : Nat} (hfr : fr < ms.length) {y : F6 × Nat} (hy : qr_S y.1 ∧ qf_pd y.1 ∧ qf_disc y.1 = D ∧ y.2 ∣ 48 ∧ 0 < y.2) : Kg D (kad ms wy fr y) := by
  obtain ⟨h1, h2, h3, h4⟩ := h
  dsimp only at h1 h2 h3 h4
  unfold kad
  cases hp : plN ms y.1 0 with
  | some j =>
    have := plN_lt ms 0 j hp
    refine ⟨h1, h2, h3, ?_⟩
    intro i k hi
    have hi' : ms.length ≤ i := hi
    show inc wy fr j i k = 0
    unfold inc
    rw [if_neg (by omega)]
    exact h4 i k hi
  | none =>
    dsimp only
    by_cases g : ms.length < 16
    · rw [if_pos g]
      refine ⟨?_, ?_, ?_, ?_⟩
      · show 1 ≤ (ms ++ [y]).length
        rw [List.length_append, List.length_singleton]; omega
      · show (ms ++ [y]).length ≤ 16
        rw [List.length_append, List.length_singleton]; omega
      · intro x hx
        rcases List.mem_append.mp hx with g1 | g1
        · exact h3 x g1
        · rw [List.mem_singleton.mp g1]; exact hy
      · intro i k hi
        have hi' : (ms ++ [y]).length ≤ i := hi
        rw [List.length_append, List.length_singleton] at hi'
        show inc wy fr ms.length i k = 0
        unfold inc
        rw [if_neg (by omega)]
        exact h4 i k (by omega)
    · rw [if_neg g]
      exact ⟨h1, h2, h3, h4⟩
theorem kad_len (ms : List (F6 × Nat)) (wy : Nat → Nat → Nat) (fr : Nat) (y : F6 × Nat) : (kad ms wy fr y).1 = ms ∨ (kad ms wy fr y).1 = ms ++ [y] := by
  unfold kad
  cases plN ms y.1 0 with
  | some j => exact Or.inl rfl
  | none =>
    dsimp only
    by_cases g : ms.length < 16
    · rw [if_pos g]; exact Or.inr rfl
    · rw [if_neg g]; exact Or.inl rfl
theorem nbL_ex {Q : F6} (hQ : qf_pd Q) (hqs : qs_ Q) {p i : Nat} (hp : p = 3 ∨ p = 5 ∨ p = 7) {L : F6} {n : Nat} (h : NB Q p i L n) {D : Int} (hD : qf_disc Q = D) : qr_S L ∧ qf_pd L ∧ qf_disc L = D ∧ n ∣ 48 ∧ 0 < n := by
  obtain ⟨a, b, c, d⟩ := NB_S hp hQ hqs h
  exact ⟨a, b, c.trans hD, d⟩
