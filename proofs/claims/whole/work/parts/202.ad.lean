/-! THE LAW: the cells that the constructors leave -/
theorem va_D.join {A : Nat → Prop} {u v : va_W} (hu : va_D A u) (hv : va_D A v) (hc : ∀ (j k : Nat) (y q : Nat × va_E), u[j]? = some y → v[k]? = some q → y.1 ≠ q.1) : va_D A (u ++ v) := by
  have key : ∀ (k : Nat) (q : Nat × va_E), (u ++ v)[k]? = some q → (k < u.length ∧ u[k]? = some q) ∨ (u.length ≤ k ∧ v[k - u.length]? = some q) := by
    intro k q hq
    rcases Nat.lt_or_ge k u.length with g | g
    · rw [List.getElem?_append_left g] at hq
      exact Or.inl ⟨g, hq⟩
    · rw [List.getElem?_append_right g] at hq
      exact Or.inr ⟨g, hq⟩
  refine ⟨fun i j x y hi hj e => ?_, fun k q hq => ?_⟩
  · rcases key i x hi with ⟨g1, g2⟩ | ⟨g1, g2⟩
    · rcases key j y hj with ⟨g3, g4⟩ | ⟨g3, g4⟩
      · exact hu.1 i j x y g2 g4 e
      · exact absurd e (hc _ _ x y g2 g4)
    · rcases key j y hj with ⟨g3, g4⟩ | ⟨g3, g4⟩
      · exact absurd e.symm (hc _ _ y x g4 g2)
      · have := hv.1 _ _ x y g2 g4 e
        omega
  · rcases key k q hq with ⟨g1, g2⟩ | ⟨g1, g2⟩
    · exact hu.2 _ q g2
    · exact hv.2 _ q g2
theorem fl_at {α : Type} (f : Nat → List α) (h : ∀ i, (f i).length = 40) : ∀ n, ((List.range n).flatMap f).length = 40 * n ∧ ∀ i r, i < n → r < 40 → ((List.range n).flatMap f)[40 * i + r]? = (f i)[r]? := by
  intro n
  induction n with
  | zero => exact ⟨rfl, fun i r hi => by omega⟩
  | succ n ih =>
    have e : (List.range (n + 1)).flatMap f = (List.range n).flatMap f ++ f n := by
      rw [List.range_succ, List.flatMap_append]
      simp
    rw [e]
    refine ⟨by rw [List.length_append, ih.1, h]; omega, fun i r hi hr => ?_⟩
    by_cases g : i < n
    · rw [List.getElem?_append_left (by rw [ih.1]; omega)]
      exact ih.2 i r g hr
    · have ei : i = n := by omega
      subst ei
      rw [List.getElem?_append_right (by rw [ih.1]; omega), ih.1]
      congr 1
      omega
theorem gW_len (cI cG : ClassId) (fo : Nat → Nat) (ga ya mb pb : Nat → Nat → Nat) (j : Nat) (f : FS) : (gW cI cG fo ga ya mb pb j f).length = 40 := by
  simp [gW, fmW, gr]
theorem gW_adr (cI cG : ClassId) (fo : Nat → Nat) (ga ya mb pb : Nat → Nat → Nat) (j : Nat) (f g : FS) : (gW cI cG fo ga ya mb pb j f).map (·.1) = (gW cI cG fo ga ya mb pb j g).map (·.1) := by
  simp [gW, fmW, gr]
  rfl
theorem bW_adr (cI cF : ClassId) (h : Nat) (a ra la fo : Nat → Nat) (b b' : BS) : (bW cI cF h a ra la fo b).map (·.1) = (bW cI cF h a ra la fo b').map (·.1) := rfl
theorem nW_adr (cI cJ : ClassId) (hm : Nat) (am : Nat → Nat) (x x' : MS) : (nW cI cJ hm am x).map (·.1) = (nW cI cJ hm am x').map (·.1) := rfl
def gAll (cI cG : ClassId) (fo : Nat → Nat) (ga ya mb pb : Nat → Nat → Nat) (f : FS) : va_W := (List.range 12).flatMap (fun j => gW cI cG fo ga ya mb pb j f)
theorem gAll_at {cI cG : ClassId} {fo : Nat → Nat} {ga ya mb pb : Nat → Nat → Nat} {f : FS} {j r : Nat} (hj : j < 12) {q : Nat × va_E} (h : (gW cI cG fo ga ya mb pb j f)[r]? = some q) : (gAll cI cG fo ga ya mb pb f)[40 * j + r]? = some q := by
  have hr := (List.getElem?_eq_some_iff.mp h).1
  rw [gW_len] at hr
  have := (fl_at (fun j => gW cI cG fo ga ya mb pb j f) (fun i => gW_len _ _ _ _ _ _ _ i f) 12).2 j r hj hr
  unfold gAll
  rw [this]
  exact h
theorem AD_of {A : Nat → Prop} {cI cJ cF cG : ClassId} {h : Nat} {a ra la fo : Nat → Nat} {ga ya mb pb : Nat → Nat → Nat} {hm : Nat} {am : Nat → Nat} {b0 : BS} {f0 : FS} {x0 : MS} (hD : va_D A ((bW cI cF h a ra la fo b0 ++ gAll cI cG fo ga ya mb pb f0) ++ nW cI cJ hm am x0)) : AD A cI cJ cF cG h a ra la fo ga ya mb pb hm am := by
  have dB := hD.left.left
  have dG := hD.left.right
  have dM := hD.right
  have cBG := hD.left.cross
  have cM := hD.cross
  have gD : ∀ i, i < 12 → va_D A (gW cI cG fo ga ya mb pb i f0) := fun i hi => ⟨fun r r' x y h1 h2 e => by have := dG.1 _ _ x y (gAll_at hi h1) (gAll_at hi h2) e; omega, fun r q hq => dG.2 _ q (gAll_at hi hq)⟩
  have gC : ∀ i j, i < 12 → j < 12 → i ≠ j → ∀ (r k : Nat) (y q : Nat × va_E), (gW cI cG fo ga ya mb pb i f0)[r]? = some y → (gW cI cG fo ga ya mb pb j f0)[k]? = some q → y.1 ≠ q.1 := fun i j hi hj hne r k y q h1 h2 e => by
    have l1 := (List.getElem?_eq_some_iff.mp h1).1
    have l2 := (List.getElem?_eq_some_iff.mp h2).1
    rw [gW_len] at l1 l2
    have := dG.1 _ _ y q (gAll_at hi h1) (gAll_at hj h2) e
    omega
  have bG : ∀ i, i < 12 → va_D A (bW cI cF h a ra la fo b0 ++ gW cI cG fo ga ya mb pb i f0) := fun i hi => dB.join (gD i hi) (fun r k y q h1 h2 => cBG r _ y q h1 (gAll_at hi h2))
  refine ⟨fun b f g i j hi hj hne => ?_, fun b f x i hi => ?_⟩
  · have h1 : va_D A ((bW cI cF h a ra la fo b0 ++ gW cI cG fo ga ya mb pb i f0) ++ gW cI cG fo ga ya mb pb j f0) := (bG i hi).join (gD j hj) (cross_app (fun r k y q h1 h2 => cBG r _ y q h1 (gAll_at hj h2)) (gC i j hi hj hne))
    refine h1.re ?_
    rw [List.map_append, List.map_append, List.map_append, List.map_append, bW_adr cI cF h a ra la fo b b0, gW_adr cI cG fo ga ya mb pb i f f0, gW_adr cI cG fo ga ya mb pb j g f0]
  · have h1 : va_D A ((bW cI cF h a ra la fo b0 ++ gW cI cG fo ga ya mb pb i f0) ++ nW cI cJ hm am x0) := (bG i hi).join dM (cross_app (fun r k y q h1 h2 => cM r k y q (by rw [List.getElem?_append_left (List.getElem?_eq_some_iff.mp h1).1]; exact h1) h2) (fun r k y q h1 h2 => cM ((bW cI cF h a ra la fo b0).length + (40 * i + r)) k y q (by rw [List.getElem?_append_right (by omega), Nat.add_sub_cancel_left]; exact gAll_at hi h1) h2))
    refine h1.re ?_
    rw [List.map_append, List.map_append, List.map_append, List.map_append, bW_adr cI cF h a ra la fo b b0, gW_adr cI cG fo ga ya mb pb i f f0, nW_adr cI cJ hm am x x0]
theorem CW_of {D : va_G} {cI cJ cF cG : ClassId} {h : Nat} {a ra la fo : Nat → Nat} {ga ya mb pb : Nat → Nat → Nat} {hm : Nat} {am : Nat → Nat} {b0 : BS} {f0 : FS} {x0 : MS} {H : Heap} (hP : va_P D vwCl ((bW cI cF h a ra la fo b0 ++ gAll cI cG fo ga ya mb pb f0) ++ nW cI cJ hm am x0) H) : CW D cI cJ cF cG h a ra la fo ga ya mb pb hm am b0 (fun _ => f0) x0 H := ⟨hP.left.left, fun j hj k q hq => hP.left.right _ q (gAll_at hj hq), hP.right⟩
