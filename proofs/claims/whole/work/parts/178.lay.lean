set_option maxRecDepth 10000 in
theorem lay_01 {six w : Nat → Int32} {Q : F6} {W : V3} {p : Nat} (hp : p = 3 ∨ p = 5 ∨ p = 7) (hs : a6 six Q) (hq : qs_ Q) (hw : av w 0 W) (h60 : v60 W) (hn : nv W) (b : Nat → Int32) {F : Nat} (hF : 100 ≤ F) : ∃ b', lay_k F (ix p) 0 six w b 1 = some b' ∧ a9 b' (nbC p 0 1 (rhoT Q p W 0) W) := by
  have hun : ∀ k, v60 (un k) := by
    intro k
    unfold un v60
    split
    · decide
    · split <;> decide
  have hT : ∀ k, rI (qf_tch Q W (un k)) := fun k => by
    have := qs_tch hq (v := W) (w := un k) h60 (hun k)
    exact ⟨by omega, by omega⟩
  have hp0 : (0 : Int) < p := by omega
  have hne : ¬ ix p = 0 := by rw [ix_0, ix_eq (by omega) (by omega)]; omega
  have rp : rI (p : Int) := ⟨by omega, by omega⟩
  have fm : ∀ x : Int, rI x → fJ9_floorMod_7cf53 (Int32.ofInt x) (ix p) = some (Int32.ofInt (x % (p : Int))) := fun x hx => zi_floorMod hx rp hp0
  have E1 : fX4_touchUnit 3 six w 0 0 = some (Int32.ofInt (qf_tch Q W (un 0))) := x4_tu0 hs hw (by decide) (by decide)
  have E2 := x2_inv hp (hT 0) hF
  have E3 : fX4_touchUnit 3 six w 0 1 = some (Int32.ofInt (qf_tch Q W (un 1))) := x4_tu1 hs hw (by decide) (by decide)
  have E4 := fm _ (hT 1)
  have E6 : fX4_touchUnit 3 six w 0 2 = some (Int32.ofInt (qf_tch Q W (un 2))) := x4_tu2 hs hw (by decide) (by decide)
  have E7 := fm _ (hT 2)
  have gb := ivm_b p (qf_tch Q W (un 0))
  have rb := rho_b (Q := Q) hp W 0
  have mb : ∀ x : Int, 0 ≤ x % (p : Int) ∧ x % (p : Int) ≤ 6 := fun T => by
    have h1 := Int.emod_nonneg T (by omega : (p : Int) ≠ 0)
    have h2 := Int.emod_lt_of_pos T hp0
    omega
  have pr : ∀ x y : Int, 0 ≤ x ∧ x ≤ 6 → -1000 ≤ y ∧ y ≤ 1000 → -6000 ≤ x * y ∧ x * y ≤ 6000 := fun x y hx hy => by
    have := b4_mul (A := 6) (B := 1000) (x := x) (y := y) ⟨by omega, by omega⟩ hy
    omega
  have er : ∀ T : Int, (ivm p (qf_tch Q W (un 0)) * (T % (p : Int))) % (p : Int) = (T * ivm p (qf_tch Q W (un 0))) % (p : Int) := fun T => by rw [Int.mul_emod, Int.emod_emod, ← Int.mul_emod, Int.mul_comm]
  have E5 : fJ9_floorMod_7cf53 (Int32.ofInt (ivm p (qf_tch Q W (un 0))) * Int32.ofInt (qf_tch Q W (un 1) % (p : Int))) (ix p) = some (Int32.ofInt (rhoT Q p W 0).2.1) := by
    have h9 := pr _ _ ⟨by omega, gb.2⟩ (by have := mb (qf_tch Q W (un 1)); omega : -1000 ≤ qf_tch Q W (un 1) % (p : Int) ∧ qf_tch Q W (un 1) % (p : Int) ≤ 1000)
    rw [← Int32.ofInt_mul, fm _ ⟨by omega, by omega⟩, er]
    rfl
  have E8 : fJ9_floorMod_7cf53 (Int32.ofInt (ivm p (qf_tch Q W (un 0))) * Int32.ofInt (qf_tch Q W (un 2) % (p : Int))) (ix p) = some (Int32.ofInt (rhoT Q p W 0).2.2) := by
    have h9 := pr _ _ ⟨by omega, gb.2⟩ (by have := mb (qf_tch Q W (un 2)); omega : -1000 ≤ qf_tch Q W (un 2) % (p : Int) ∧ qf_tch Q W (un 2) % (p : Int) ≤ 1000)
    rw [← Int32.ofInt_mul, fm _ ⟨by omega, by omega⟩, er]
    rfl
  generalize hR : (rhoT Q p W 0) = R at *
  obtain ⟨q1, q2, q3⟩ := rb
  obtain ⟨w1, w2, w3⟩ := h60
  obtain ⟨n1, n2, n3⟩ := hn
  obtain ⟨g0, g1, g2⟩ := hw
  simp only [Nat.zero_add] at g0 g1 g2
  have pv := pr R.2.1 W.2.1 (by omega) (by omega)
  have po := pr R.2.2 W.2.2 (by omega) (by omega)
  have nvv := Int.mul_nonneg (by omega : 0 ≤ R.2.1) (by omega : 0 ≤ W.2.1)
  have noo := Int.mul_nonneg (by omega : 0 ≤ R.2.2) (by omega : 0 ≤ W.2.2)
  have E9 : ((w 0 + Int32.ofInt R.2.1 * w 1) + Int32.ofInt R.2.2 * w 2) / ix p = Int32.ofInt ((W.1 + R.2.1 * W.2.1 + R.2.2 * W.2.2) / (p : Int)) := by
    rw [g0, g1, g2, ← Int32.ofInt_mul, ← Int32.ofInt_mul, ← Int32.ofInt_add, ← Int32.ofInt_add]
    unfold ix
    rw [zi_div ⟨by omega, by omega⟩ rp, Int.tdiv_eq_ediv_of_nonneg (by omega)]
  have hon : 0 ≤ (W.1 + R.2.1 * W.2.1 + R.2.2 * W.2.2) / (p : Int) ∧ (W.1 + R.2.1 * W.2.1 + R.2.2 * W.2.2) / (p : Int) ≤ 1000 := by
    constructor
    · exact Int.ediv_nonneg (by omega) (by omega)
    · have k1 : R.2.1 * W.2.1 ≤ 360 := by
        have := b4_mul (A := 6) (B := 60) (x := R.2.1) (y := W.2.1) ⟨by omega, by omega⟩ ⟨by omega, by omega⟩
        omega
      have k2 : R.2.2 * W.2.2 ≤ 360 := by
        have := b4_mul (A := 6) (B := 60) (x := R.2.2) (y := W.2.2) ⟨by omega, by omega⟩ ⟨by omega, by omega⟩
        omega
      have := Int.ediv_le_self (a := W.1 + R.2.1 * W.2.1 + R.2.2 * W.2.2) (p : Int) (by omega)
      omega
  have hV : col 1 W = W.2.1 := rfl
  have hO : col 2 W = W.2.2 := rfl
  have E10 : fX2_inverseOf F (ix p) (w 1) = some (Int32.ofInt (ivm p W.2.1)) := by rw [g1]; exact x2_inv hp ⟨by omega, by omega⟩ hF
  have gv := ivm_b p W.2.1
  have E11 : fJ9_floorMod_7cf53 (Int32.ofInt (ivm p W.2.1) * w 2) (ix p) = some (Int32.ofInt ((ivm p W.2.1 * W.2.2) % (p : Int))) := by
    have h9 := pr _ W.2.2 ⟨by omega, gv.2⟩ ⟨by omega, by omega⟩
    rw [g2, ← Int32.ofInt_mul, fm _ ⟨by omega, by omega⟩]
  have E12 : fJ9_floorMod_7cf53 (Int32.ofInt (ivm p W.2.1) * Int32.ofInt ((W.1 + R.2.1 * W.2.1 + R.2.2 * W.2.2) / (p : Int))) (ix p) = some (Int32.ofInt ((ivm p W.2.1 * ((W.1 + R.2.1 * W.2.1 + R.2.2 * W.2.2) / (p : Int))) % (p : Int))) := by
    have h9 := pr _ ((W.1 + R.2.1 * W.2.1 + R.2.2 * W.2.2) / (p : Int)) ⟨by omega, gv.2⟩ ⟨by omega, by omega⟩
    rw [← Int32.ofInt_mul, fm _ ⟨by omega, by omega⟩]
  have main : lay_k F (ix p) 0 six w b 1 = some (upd (upd (upd (upd (upd (upd (upd (upd (upd b 1 1) 2 (Int32.ofInt ((ivm p W.2.1 * W.2.2) % (p : Int)))) 0 (((ix p * Int32.ofInt ((ivm p W.2.1 * ((W.1 + R.2.1 * W.2.1 + R.2.2 * W.2.2) / (p : Int))) % (p : Int))) - Int32.ofInt R.2.1) - (Int32.ofInt ((ivm p W.2.1 * W.2.2) % (p : Int)) * Int32.ofInt R.2.2))) 4 0) 5 1) 3 (-Int32.ofInt R.2.2)) 7 0) 8 0) 6 (ix p)) := by
    unfold lay_k
    have o1 : ((3 : Int32) - 0) - 1 = 2 := by decide
    have N0 : (0 : Int32).toNatClampNeg = 0 := by decide
    have N1 : (1 : Int32).toNatClampNeg = 1 := by decide
    have N2 : (2 : Int32).toNatClampNeg = 2 := by decide
    have N3 : ((3 : Int32) + 0).toNatClampNeg = 3 := by decide
    have N4 : ((3 : Int32) + 1).toNatClampNeg = 4 := by decide
    have N5 : ((3 : Int32) + 2).toNatClampNeg = 5 := by decide
    have N6 : ((6 : Int32) + 0).toNatClampNeg = 6 := by decide
    have N7 : ((6 : Int32) + 1).toNatClampNeg = 7 := by decide
    have N8 : ((6 : Int32) + 2).toNatClampNeg = 8 := by decide
    have i3 : okI (0 : Int32) 3 ∧ okI (1 : Int32) 3 ∧ okI (2 : Int32) 3 := by decide
    have i9 : okI (0 : Int32) 9 ∧ okI (1 : Int32) 9 ∧ okI (2 : Int32) 9 := by decide
    have j9 : okI ((3 : Int32) + 0) 9 ∧ okI ((3 : Int32) + 1) 9 ∧ okI ((3 : Int32) + 2) 9 := by decide
    have k9 : okI ((6 : Int32) + 0) 9 ∧ okI ((6 : Int32) + 1) 9 ∧ okI ((6 : Int32) + 2) 9 := by decide
    rw [nm_eq, o1, E1, bd1_s, E2, bd1_s, E3, bd1_s, E4, bd1_s, E5, bd1_s, E6, bd1_s, E7, bd1_s, E8, bd1_s]
    rw [if_pos i3.1, if_pos i3.2.1, if_pos i3.2.2, if_pos hne, nm_eq]
    have E9' : ((w (0 : Int32).toNatClampNeg + Int32.ofInt R.2.1 * w (1 : Int32).toNatClampNeg) + Int32.ofInt R.2.2 * w (2 : Int32).toNatClampNeg) / ix p = Int32.ofInt ((W.1 + R.2.1 * W.2.1 + R.2.2 * W.2.2) / (p : Int)) := by rw [N0, N1, N2]; exact E9
    have E10' : fX2_inverseOf F (ix p) (w (1 : Int32).toNatClampNeg) = some (Int32.ofInt (ivm p W.2.1)) := by rw [N1]; exact E10
    have E11' : fJ9_floorMod_7cf53 (Int32.ofInt (ivm p W.2.1) * w (2 : Int32).toNatClampNeg) (ix p) = some (Int32.ofInt ((ivm p W.2.1 * W.2.2) % (p : Int))) := by rw [N2]; exact E11
    rw [E9', if_pos i3.2.1, E10', bd1_s, if_pos i3.2.2, E11', bd1_s, E12, bd1_s]
    rw [if_pos i9.2.1, nm_eq, if_pos i9.2.2, nm_eq, if_pos i9.1, nm_eq, nm_eq, if_pos j9.2.1, nm_eq, nm_eq, if_pos j9.2.2, nm_eq, nm_eq, if_pos j9.1, nm_eq, nm_eq, if_pos k9.2.1, nm_eq, nm_eq, if_pos k9.2.2, nm_eq, nm_eq, if_pos k9.1, nm_eq]
    rw [N0, N1, N2, N3, N4, N5, N6, N7, N8]
  rw [main]
  refine ⟨_, rfl, ?_⟩
  unfold nbC
  rw [ivm_mod hp]
  refine ⟨?_, ?_, ?_, ?_, ?_, ?_, ?_, ?_, ?_⟩ <;> simp [upd, ofc, col, ix]
set_option maxRecDepth 10000 in
theorem lay_02 {six w : Nat → Int32} {Q : F6} {W : V3} {p : Nat} (hp : p = 3 ∨ p = 5 ∨ p = 7) (hs : a6 six Q) (hq : qs_ Q) (hw : av w 0 W) (h60 : v60 W) (hn : nv W) (b : Nat → Int32) {F : Nat} (hF : 100 ≤ F) : ∃ b', lay_k F (ix p) 0 six w b 2 = some b' ∧ a9 b' (nbC p 0 2 (rhoT Q p W 0) W) := by
  have hun : ∀ k, v60 (un k) := by
    intro k
    unfold un v60
    split
    · decide
    · split <;> decide
  have hT : ∀ k, rI (qf_tch Q W (un k)) := fun k => by
    have := qs_tch hq (v := W) (w := un k) h60 (hun k)
    exact ⟨by omega, by omega⟩
  have hp0 : (0 : Int) < p := by omega
  have hne : ¬ ix p = 0 := by rw [ix_0, ix_eq (by omega) (by omega)]; omega
  have rp : rI (p : Int) := ⟨by omega, by omega⟩
  have fm : ∀ x : Int, rI x → fJ9_floorMod_7cf53 (Int32.ofInt x) (ix p) = some (Int32.ofInt (x % (p : Int))) := fun x hx => zi_floorMod hx rp hp0
  have E1 : fX4_touchUnit 3 six w 0 0 = some (Int32.ofInt (qf_tch Q W (un 0))) := x4_tu0 hs hw (by decide) (by decide)
  have E2 := x2_inv hp (hT 0) hF
  have E3 : fX4_touchUnit 3 six w 0 2 = some (Int32.ofInt (qf_tch Q W (un 2))) := x4_tu2 hs hw (by decide) (by decide)
  have E4 := fm _ (hT 2)
  have E6 : fX4_touchUnit 3 six w 0 1 = some (Int32.ofInt (qf_tch Q W (un 1))) := x4_tu1 hs hw (by decide) (by decide)
  have E7 := fm _ (hT 1)
  have gb := ivm_b p (qf_tch Q W (un 0))
  have rb := rho_b (Q := Q) hp W 0
  have mb : ∀ x : Int, 0 ≤ x % (p : Int) ∧ x % (p : Int) ≤ 6 := fun T => by
    have h1 := Int.emod_nonneg T (by omega : (p : Int) ≠ 0)
    have h2 := Int.emod_lt_of_pos T hp0
    omega
  have pr : ∀ x y : Int, 0 ≤ x ∧ x ≤ 6 → -1000 ≤ y ∧ y ≤ 1000 → -6000 ≤ x * y ∧ x * y ≤ 6000 := fun x y hx hy => by
    have := b4_mul (A := 6) (B := 1000) (x := x) (y := y) ⟨by omega, by omega⟩ hy
    omega
  have er : ∀ T : Int, (ivm p (qf_tch Q W (un 0)) * (T % (p : Int))) % (p : Int) = (T * ivm p (qf_tch Q W (un 0))) % (p : Int) := fun T => by rw [Int.mul_emod, Int.emod_emod, ← Int.mul_emod, Int.mul_comm]
  have E5 : fJ9_floorMod_7cf53 (Int32.ofInt (ivm p (qf_tch Q W (un 0))) * Int32.ofInt (qf_tch Q W (un 2) % (p : Int))) (ix p) = some (Int32.ofInt (rhoT Q p W 0).2.2) := by
    have h9 := pr _ _ ⟨by omega, gb.2⟩ (by have := mb (qf_tch Q W (un 2)); omega : -1000 ≤ qf_tch Q W (un 2) % (p : Int) ∧ qf_tch Q W (un 2) % (p : Int) ≤ 1000)
    rw [← Int32.ofInt_mul, fm _ ⟨by omega, by omega⟩, er]
    rfl
  have E8 : fJ9_floorMod_7cf53 (Int32.ofInt (ivm p (qf_tch Q W (un 0))) * Int32.ofInt (qf_tch Q W (un 1) % (p : Int))) (ix p) = some (Int32.ofInt (rhoT Q p W 0).2.1) := by
    have h9 := pr _ _ ⟨by omega, gb.2⟩ (by have := mb (qf_tch Q W (un 1)); omega : -1000 ≤ qf_tch Q W (un 1) % (p : Int) ∧ qf_tch Q W (un 1) % (p : Int) ≤ 1000)
    rw [← Int32.ofInt_mul, fm _ ⟨by omega, by omega⟩, er]
    rfl
  generalize hR : (rhoT Q p W 0) = R at *
  obtain ⟨q1, q2, q3⟩ := rb
  obtain ⟨w1, w2, w3⟩ := h60
  obtain ⟨n1, n2, n3⟩ := hn
  obtain ⟨g0, g1, g2⟩ := hw
  simp only [Nat.zero_add] at g0 g1 g2
  have pv := pr R.2.2 W.2.2 (by omega) (by omega)
  have po := pr R.2.1 W.2.1 (by omega) (by omega)
  have nvv := Int.mul_nonneg (by omega : 0 ≤ R.2.2) (by omega : 0 ≤ W.2.2)
  have noo := Int.mul_nonneg (by omega : 0 ≤ R.2.1) (by omega : 0 ≤ W.2.1)
  have E9 : ((w 0 + Int32.ofInt R.2.2 * w 2) + Int32.ofInt R.2.1 * w 1) / ix p = Int32.ofInt ((W.1 + R.2.2 * W.2.2 + R.2.1 * W.2.1) / (p : Int)) := by
    rw [g0, g2, g1, ← Int32.ofInt_mul, ← Int32.ofInt_mul, ← Int32.ofInt_add, ← Int32.ofInt_add]
    unfold ix
    rw [zi_div ⟨by omega, by omega⟩ rp, Int.tdiv_eq_ediv_of_nonneg (by omega)]
  have hon : 0 ≤ (W.1 + R.2.2 * W.2.2 + R.2.1 * W.2.1) / (p : Int) ∧ (W.1 + R.2.2 * W.2.2 + R.2.1 * W.2.1) / (p : Int) ≤ 1000 := by
    constructor
    · exact Int.ediv_nonneg (by omega) (by omega)
    · have k1 : R.2.2 * W.2.2 ≤ 360 := by
        have := b4_mul (A := 6) (B := 60) (x := R.2.2) (y := W.2.2) ⟨by omega, by omega⟩ ⟨by omega, by omega⟩
        omega
      have k2 : R.2.1 * W.2.1 ≤ 360 := by
        have := b4_mul (A := 6) (B := 60) (x := R.2.1) (y := W.2.1) ⟨by omega, by omega⟩ ⟨by omega, by omega⟩
        omega
      have := Int.ediv_le_self (a := W.1 + R.2.2 * W.2.2 + R.2.1 * W.2.1) (p : Int) (by omega)
      omega
  have hV : col 2 W = W.2.2 := rfl
  have hO : col 1 W = W.2.1 := rfl
  have E10 : fX2_inverseOf F (ix p) (w 2) = some (Int32.ofInt (ivm p W.2.2)) := by rw [g2]; exact x2_inv hp ⟨by omega, by omega⟩ hF
  have gv := ivm_b p W.2.2
  have E11 : fJ9_floorMod_7cf53 (Int32.ofInt (ivm p W.2.2) * w 1) (ix p) = some (Int32.ofInt ((ivm p W.2.2 * W.2.1) % (p : Int))) := by
    have h9 := pr _ W.2.1 ⟨by omega, gv.2⟩ ⟨by omega, by omega⟩
    rw [g1, ← Int32.ofInt_mul, fm _ ⟨by omega, by omega⟩]
  have E12 : fJ9_floorMod_7cf53 (Int32.ofInt (ivm p W.2.2) * Int32.ofInt ((W.1 + R.2.2 * W.2.2 + R.2.1 * W.2.1) / (p : Int))) (ix p) = some (Int32.ofInt ((ivm p W.2.2 * ((W.1 + R.2.2 * W.2.2 + R.2.1 * W.2.1) / (p : Int))) % (p : Int))) := by
    have h9 := pr _ ((W.1 + R.2.2 * W.2.2 + R.2.1 * W.2.1) / (p : Int)) ⟨by omega, gv.2⟩ ⟨by omega, by omega⟩
    rw [← Int32.ofInt_mul, fm _ ⟨by omega, by omega⟩]
  have main : lay_k F (ix p) 0 six w b 2 = some (upd (upd (upd (upd (upd (upd (upd (upd (upd b 2 1) 1 (Int32.ofInt ((ivm p W.2.2 * W.2.1) % (p : Int)))) 0 (((ix p * Int32.ofInt ((ivm p W.2.2 * ((W.1 + R.2.2 * W.2.2 + R.2.1 * W.2.1) / (p : Int))) % (p : Int))) - Int32.ofInt R.2.2) - (Int32.ofInt ((ivm p W.2.2 * W.2.1) % (p : Int)) * Int32.ofInt R.2.1))) 5 0) 4 1) 3 (-Int32.ofInt R.2.1)) 8 0) 7 0) 6 (ix p)) := by
    unfold lay_k
    have o1 : ((3 : Int32) - 0) - 2 = 1 := by decide
    have N0 : (0 : Int32).toNatClampNeg = 0 := by decide
    have N1 : (1 : Int32).toNatClampNeg = 1 := by decide
    have N2 : (2 : Int32).toNatClampNeg = 2 := by decide
    have N3 : ((3 : Int32) + 0).toNatClampNeg = 3 := by decide
    have N4 : ((3 : Int32) + 1).toNatClampNeg = 4 := by decide
    have N5 : ((3 : Int32) + 2).toNatClampNeg = 5 := by decide
    have N6 : ((6 : Int32) + 0).toNatClampNeg = 6 := by decide
    have N7 : ((6 : Int32) + 1).toNatClampNeg = 7 := by decide
    have N8 : ((6 : Int32) + 2).toNatClampNeg = 8 := by decide
    have i3 : okI (0 : Int32) 3 ∧ okI (2 : Int32) 3 ∧ okI (1 : Int32) 3 := by decide
    have i9 : okI (0 : Int32) 9 ∧ okI (2 : Int32) 9 ∧ okI (1 : Int32) 9 := by decide
    have j9 : okI ((3 : Int32) + 0) 9 ∧ okI ((3 : Int32) + 2) 9 ∧ okI ((3 : Int32) + 1) 9 := by decide
    have k9 : okI ((6 : Int32) + 0) 9 ∧ okI ((6 : Int32) + 2) 9 ∧ okI ((6 : Int32) + 1) 9 := by decide
    rw [nm_eq, o1, E1, bd1_s, E2, bd1_s, E3, bd1_s, E4, bd1_s, E5, bd1_s, E6, bd1_s, E7, bd1_s, E8, bd1_s]
    rw [if_pos i3.1, if_pos i3.2.1, if_pos i3.2.2, if_pos hne, nm_eq]
    have E9' : ((w (0 : Int32).toNatClampNeg + Int32.ofInt R.2.2 * w (2 : Int32).toNatClampNeg) + Int32.ofInt R.2.1 * w (1 : Int32).toNatClampNeg) / ix p = Int32.ofInt ((W.1 + R.2.2 * W.2.2 + R.2.1 * W.2.1) / (p : Int)) := by rw [N0, N1, N2]; exact E9
    have E10' : fX2_inverseOf F (ix p) (w (2 : Int32).toNatClampNeg) = some (Int32.ofInt (ivm p W.2.2)) := by rw [N2]; exact E10
    have E11' : fJ9_floorMod_7cf53 (Int32.ofInt (ivm p W.2.2) * w (1 : Int32).toNatClampNeg) (ix p) = some (Int32.ofInt ((ivm p W.2.2 * W.2.1) % (p : Int))) := by rw [N1]; exact E11
    rw [E9', if_pos i3.2.1, E10', bd1_s, if_pos i3.2.2, E11', bd1_s, E12, bd1_s]
    rw [if_pos i9.2.1, nm_eq, if_pos i9.2.2, nm_eq, if_pos i9.1, nm_eq, nm_eq, if_pos j9.2.1, nm_eq, nm_eq, if_pos j9.2.2, nm_eq, nm_eq, if_pos j9.1, nm_eq, nm_eq, if_pos k9.2.1, nm_eq, nm_eq, if_pos k9.2.2, nm_eq, nm_eq, if_pos k9.1, nm_eq]
    rw [N0, N1, N2, N3, N4, N5, N6, N7, N8]
  rw [main]
  refine ⟨_, rfl, ?_⟩
  unfold nbC
  rw [ivm_mod hp]
  refine ⟨?_, ?_, ?_, ?_, ?_, ?_, ?_, ?_, ?_⟩ <;> simp [upd, ofc, col, ix]
set_option maxRecDepth 10000 in
theorem lay_10 {six w : Nat → Int32} {Q : F6} {W : V3} {p : Nat} (hp : p = 3 ∨ p = 5 ∨ p = 7) (hs : a6 six Q) (hq : qs_ Q) (hw : av w 0 W) (h60 : v60 W) (hn : nv W) (b : Nat → Int32) {F : Nat} (hF : 100 ≤ F) : ∃ b', lay_k F (ix p) 1 six w b 0 = some b' ∧ a9 b' (nbC p 1 0 (rhoT Q p W 1) W) := by
  have hun : ∀ k, v60 (un k) := by
    intro k
    unfold un v60
    split
    · decide
    · split <;> decide
  have hT : ∀ k, rI (qf_tch Q W (un k)) := fun k => by
    have := qs_tch hq (v := W) (w := un k) h60 (hun k)
    exact ⟨by omega, by omega⟩
  have hp0 : (0 : Int) < p := by omega
  have hne : ¬ ix p = 0 := by rw [ix_0, ix_eq (by omega) (by omega)]; omega
  have rp : rI (p : Int) := ⟨by omega, by omega⟩
  have fm : ∀ x : Int, rI x → fJ9_floorMod_7cf53 (Int32.ofInt x) (ix p) = some (Int32.ofInt (x % (p : Int))) := fun x hx => zi_floorMod hx rp hp0
  have E1 : fX4_touchUnit 3 six w 0 1 = some (Int32.ofInt (qf_tch Q W (un 1))) := x4_tu1 hs hw (by decide) (by decide)
  have E2 := x2_inv hp (hT 1) hF
  have E3 : fX4_touchUnit 3 six w 0 0 = some (Int32.ofInt (qf_tch Q W (un 0))) := x4_tu0 hs hw (by decide) (by decide)
  have E4 := fm _ (hT 0)
  have E6 : fX4_touchUnit 3 six w 0 2 = some (Int32.ofInt (qf_tch Q W (un 2))) := x4_tu2 hs hw (by decide) (by decide)
  have E7 := fm _ (hT 2)
  have gb := ivm_b p (qf_tch Q W (un 1))
  have rb := rho_b (Q := Q) hp W 1
  have mb : ∀ x : Int, 0 ≤ x % (p : Int) ∧ x % (p : Int) ≤ 6 := fun T => by
    have h1 := Int.emod_nonneg T (by omega : (p : Int) ≠ 0)
    have h2 := Int.emod_lt_of_pos T hp0
    omega
  have pr : ∀ x y : Int, 0 ≤ x ∧ x ≤ 6 → -1000 ≤ y ∧ y ≤ 1000 → -6000 ≤ x * y ∧ x * y ≤ 6000 := fun x y hx hy => by
    have := b4_mul (A := 6) (B := 1000) (x := x) (y := y) ⟨by omega, by omega⟩ hy
    omega
  have er : ∀ T : Int, (ivm p (qf_tch Q W (un 1)) * (T % (p : Int))) % (p : Int) = (T * ivm p (qf_tch Q W (un 1))) % (p : Int) := fun T => by rw [Int.mul_emod, Int.emod_emod, ← Int.mul_emod, Int.mul_comm]
  have E5 : fJ9_floorMod_7cf53 (Int32.ofInt (ivm p (qf_tch Q W (un 1))) * Int32.ofInt (qf_tch Q W (un 0) % (p : Int))) (ix p) = some (Int32.ofInt (rhoT Q p W 1).1) := by
    have h9 := pr _ _ ⟨by omega, gb.2⟩ (by have := mb (qf_tch Q W (un 0)); omega : -1000 ≤ qf_tch Q W (un 0) % (p : Int) ∧ qf_tch Q W (un 0) % (p : Int) ≤ 1000)
    rw [← Int32.ofInt_mul, fm _ ⟨by omega, by omega⟩, er]
    rfl
  have E8 : fJ9_floorMod_7cf53 (Int32.ofInt (ivm p (qf_tch Q W (un 1))) * Int32.ofInt (qf_tch Q W (un 2) % (p : Int))) (ix p) = some (Int32.ofInt (rhoT Q p W 1).2.2) := by
    have h9 := pr _ _ ⟨by omega, gb.2⟩ (by have := mb (qf_tch Q W (un 2)); omega : -1000 ≤ qf_tch Q W (un 2) % (p : Int) ∧ qf_tch Q W (un 2) % (p : Int) ≤ 1000)
    rw [← Int32.ofInt_mul, fm _ ⟨by omega, by omega⟩, er]
    rfl
  generalize hR : (rhoT Q p W 1) = R at *
  obtain ⟨q1, q2, q3⟩ := rb
  obtain ⟨w1, w2, w3⟩ := h60
  obtain ⟨n1, n2, n3⟩ := hn
  obtain ⟨g0, g1, g2⟩ := hw
  simp only [Nat.zero_add] at g0 g1 g2
  have pv := pr R.1 W.1 (by omega) (by omega)
  have po := pr R.2.2 W.2.2 (by omega) (by omega)
  have nvv := Int.mul_nonneg (by omega : 0 ≤ R.1) (by omega : 0 ≤ W.1)
  have noo := Int.mul_nonneg (by omega : 0 ≤ R.2.2) (by omega : 0 ≤ W.2.2)
  have E9 : ((w 1 + Int32.ofInt R.1 * w 0) + Int32.ofInt R.2.2 * w 2) / ix p = Int32.ofInt ((W.2.1 + R.1 * W.1 + R.2.2 * W.2.2) / (p : Int)) := by
    rw [g1, g0, g2, ← Int32.ofInt_mul, ← Int32.ofInt_mul, ← Int32.ofInt_add, ← Int32.ofInt_add]
    unfold ix
    rw [zi_div ⟨by omega, by omega⟩ rp, Int.tdiv_eq_ediv_of_nonneg (by omega)]
  have hon : 0 ≤ (W.2.1 + R.1 * W.1 + R.2.2 * W.2.2) / (p : Int) ∧ (W.2.1 + R.1 * W.1 + R.2.2 * W.2.2) / (p : Int) ≤ 1000 := by
    constructor
    · exact Int.ediv_nonneg (by omega) (by omega)
    · have k1 : R.1 * W.1 ≤ 360 := by
        have := b4_mul (A := 6) (B := 60) (x := R.1) (y := W.1) ⟨by omega, by omega⟩ ⟨by omega, by omega⟩
        omega
      have k2 : R.2.2 * W.2.2 ≤ 360 := by
        have := b4_mul (A := 6) (B := 60) (x := R.2.2) (y := W.2.2) ⟨by omega, by omega⟩ ⟨by omega, by omega⟩
        omega
      have := Int.ediv_le_self (a := W.2.1 + R.1 * W.1 + R.2.2 * W.2.2) (p : Int) (by omega)
      omega
  have hV : col 0 W = W.1 := rfl
  have hO : col 2 W = W.2.2 := rfl
  have E10 : fX2_inverseOf F (ix p) (w 0) = some (Int32.ofInt (ivm p W.1)) := by rw [g0]; exact x2_inv hp ⟨by omega, by omega⟩ hF
  have gv := ivm_b p W.1
  have E11 : fJ9_floorMod_7cf53 (Int32.ofInt (ivm p W.1) * w 2) (ix p) = some (Int32.ofInt ((ivm p W.1 * W.2.2) % (p : Int))) := by
    have h9 := pr _ W.2.2 ⟨by omega, gv.2⟩ ⟨by omega, by omega⟩
    rw [g2, ← Int32.ofInt_mul, fm _ ⟨by omega, by omega⟩]
  have E12 : fJ9_floorMod_7cf53 (Int32.ofInt (ivm p W.1) * Int32.ofInt ((W.2.1 + R.1 * W.1 + R.2.2 * W.2.2) / (p : Int))) (ix p) = some (Int32.ofInt ((ivm p W.1 * ((W.2.1 + R.1 * W.1 + R.2.2 * W.2.2) / (p : Int))) % (p : Int))) := by
    have h9 := pr _ ((W.2.1 + R.1 * W.1 + R.2.2 * W.2.2) / (p : Int)) ⟨by omega, gv.2⟩ ⟨by omega, by omega⟩
    rw [← Int32.ofInt_mul, fm _ ⟨by omega, by omega⟩]
  have main : lay_k F (ix p) 1 six w b 0 = some (upd (upd (upd (upd (upd (upd (upd (upd (upd b 0 1) 2 (Int32.ofInt ((ivm p W.1 * W.2.2) % (p : Int)))) 1 (((ix p * Int32.ofInt ((ivm p W.1 * ((W.2.1 + R.1 * W.1 + R.2.2 * W.2.2) / (p : Int))) % (p : Int))) - Int32.ofInt R.1) - (Int32.ofInt ((ivm p W.1 * W.2.2) % (p : Int)) * Int32.ofInt R.2.2))) 3 0) 5 1) 4 (-Int32.ofInt R.2.2)) 6 0) 8 0) 7 (ix p)) := by
    unfold lay_k
    have o1 : ((3 : Int32) - 1) - 0 = 2 := by decide
    have N0 : (0 : Int32).toNatClampNeg = 0 := by decide
    have N1 : (1 : Int32).toNatClampNeg = 1 := by decide
    have N2 : (2 : Int32).toNatClampNeg = 2 := by decide
    have N3 : ((3 : Int32) + 0).toNatClampNeg = 3 := by decide
    have N4 : ((3 : Int32) + 1).toNatClampNeg = 4 := by decide
    have N5 : ((3 : Int32) + 2).toNatClampNeg = 5 := by decide
    have N6 : ((6 : Int32) + 0).toNatClampNeg = 6 := by decide
    have N7 : ((6 : Int32) + 1).toNatClampNeg = 7 := by decide
    have N8 : ((6 : Int32) + 2).toNatClampNeg = 8 := by decide
    have i3 : okI (1 : Int32) 3 ∧ okI (0 : Int32) 3 ∧ okI (2 : Int32) 3 := by decide
    have i9 : okI (1 : Int32) 9 ∧ okI (0 : Int32) 9 ∧ okI (2 : Int32) 9 := by decide
    have j9 : okI ((3 : Int32) + 1) 9 ∧ okI ((3 : Int32) + 0) 9 ∧ okI ((3 : Int32) + 2) 9 := by decide
    have k9 : okI ((6 : Int32) + 1) 9 ∧ okI ((6 : Int32) + 0) 9 ∧ okI ((6 : Int32) + 2) 9 := by decide
    rw [nm_eq, o1, E1, bd1_s, E2, bd1_s, E3, bd1_s, E4, bd1_s, E5, bd1_s, E6, bd1_s, E7, bd1_s, E8, bd1_s]
    rw [if_pos i3.1, if_pos i3.2.1, if_pos i3.2.2, if_pos hne, nm_eq]
    have E9' : ((w (1 : Int32).toNatClampNeg + Int32.ofInt R.1 * w (0 : Int32).toNatClampNeg) + Int32.ofInt R.2.2 * w (2 : Int32).toNatClampNeg) / ix p = Int32.ofInt ((W.2.1 + R.1 * W.1 + R.2.2 * W.2.2) / (p : Int)) := by rw [N0, N1, N2]; exact E9
    have E10' : fX2_inverseOf F (ix p) (w (0 : Int32).toNatClampNeg) = some (Int32.ofInt (ivm p W.1)) := by rw [N0]; exact E10
    have E11' : fJ9_floorMod_7cf53 (Int32.ofInt (ivm p W.1) * w (2 : Int32).toNatClampNeg) (ix p) = some (Int32.ofInt ((ivm p W.1 * W.2.2) % (p : Int))) := by rw [N2]; exact E11
    rw [E9', if_pos i3.2.1, E10', bd1_s, if_pos i3.2.2, E11', bd1_s, E12, bd1_s]
    rw [if_pos i9.2.1, nm_eq, if_pos i9.2.2, nm_eq, if_pos i9.1, nm_eq, nm_eq, if_pos j9.2.1, nm_eq, nm_eq, if_pos j9.2.2, nm_eq, nm_eq, if_pos j9.1, nm_eq, nm_eq, if_pos k9.2.1, nm_eq, nm_eq, if_pos k9.2.2, nm_eq, nm_eq, if_pos k9.1, nm_eq]
    rw [N0, N1, N2, N3, N4, N5, N6, N7, N8]
  rw [main]
  refine ⟨_, rfl, ?_⟩
  unfold nbC
  rw [ivm_mod hp]
  refine ⟨?_, ?_, ?_, ?_, ?_, ?_, ?_, ?_, ?_⟩ <;> simp [upd, ofc, col, ix]
set_option maxRecDepth 10000 in
theorem lay_12 {six w : Nat → Int32} {Q : F6} {W : V3} {p : Nat} (hp : p = 3 ∨ p = 5 ∨ p = 7) (hs : a6 six Q) (hq : qs_ Q) (hw : av w 0 W) (h60 : v60 W) (hn : nv W) (b : Nat → Int32) {F : Nat} (hF : 100 ≤ F) : ∃ b', lay_k F (ix p) 1 six w b 2 = some b' ∧ a9 b' (nbC p 1 2 (rhoT Q p W 1) W) := by
  have hun : ∀ k, v60 (un k) := by
    intro k
    unfold un v60
    split
    · decide
    · split <;> decide
  have hT : ∀ k, rI (qf_tch Q W (un k)) := fun k => by
    have := qs_tch hq (v := W) (w := un k) h60 (hun k)
    exact ⟨by omega, by omega⟩
  have hp0 : (0 : Int) < p := by omega
  have hne : ¬ ix p = 0 := by rw [ix_0, ix_eq (by omega) (by omega)]; omega
  have rp : rI (p : Int) := ⟨by omega, by omega⟩
  have fm : ∀ x : Int, rI x → fJ9_floorMod_7cf53 (Int32.ofInt x) (ix p) = some (Int32.ofInt (x % (p : Int))) := fun x hx => zi_floorMod hx rp hp0
  have E1 : fX4_touchUnit 3 six w 0 1 = some (Int32.ofInt (qf_tch Q W (un 1))) := x4_tu1 hs hw (by decide) (by decide)
  have E2 := x2_inv hp (hT 1) hF
  have E3 : fX4_touchUnit 3 six w 0 2 = some (Int32.ofInt (qf_tch Q W (un 2))) := x4_tu2 hs hw (by decide) (by decide)
  have E4 := fm _ (hT 2)
  have E6 : fX4_touchUnit 3 six w 0 0 = some (Int32.ofInt (qf_tch Q W (un 0))) := x4_tu0 hs hw (by decide) (by decide)
  have E7 := fm _ (hT 0)
  have gb := ivm_b p (qf_tch Q W (un 1))
  have rb := rho_b (Q := Q) hp W 1
  have mb : ∀ x : Int, 0 ≤ x % (p : Int) ∧ x % (p : Int) ≤ 6 := fun T => by
    have h1 := Int.emod_nonneg T (by omega : (p : Int) ≠ 0)
    have h2 := Int.emod_lt_of_pos T hp0
    omega
  have pr : ∀ x y : Int, 0 ≤ x ∧ x ≤ 6 → -1000 ≤ y ∧ y ≤ 1000 → -6000 ≤ x * y ∧ x * y ≤ 6000 := fun x y hx hy => by
    have := b4_mul (A := 6) (B := 1000) (x := x) (y := y) ⟨by omega, by omega⟩ hy
    omega
  have er : ∀ T : Int, (ivm p (qf_tch Q W (un 1)) * (T % (p : Int))) % (p : Int) = (T * ivm p (qf_tch Q W (un 1))) % (p : Int) := fun T => by rw [Int.mul_emod, Int.emod_emod, ← Int.mul_emod, Int.mul_comm]
  have E5 : fJ9_floorMod_7cf53 (Int32.ofInt (ivm p (qf_tch Q W (un 1))) * Int32.ofInt (qf_tch Q W (un 2) % (p : Int))) (ix p) = some (Int32.ofInt (rhoT Q p W 1).2.2) := by
    have h9 := pr _ _ ⟨by omega, gb.2⟩ (by have := mb (qf_tch Q W (un 2)); omega : -1000 ≤ qf_tch Q W (un 2) % (p : Int) ∧ qf_tch Q W (un 2) % (p : Int) ≤ 1000)
    rw [← Int32.ofInt_mul, fm _ ⟨by omega, by omega⟩, er]
    rfl
  have E8 : fJ9_floorMod_7cf53 (Int32.ofInt (ivm p (qf_tch Q W (un 1))) * Int32.ofInt (qf_tch Q W (un 0) % (p : Int))) (ix p) = some (Int32.ofInt (rhoT Q p W 1).1) := by
    have h9 := pr _ _ ⟨by omega, gb.2⟩ (by have := mb (qf_tch Q W (un 0)); omega : -1000 ≤ qf_tch Q W (un 0) % (p : Int) ∧ qf_tch Q W (un 0) % (p : Int) ≤ 1000)
    rw [← Int32.ofInt_mul, fm _ ⟨by omega, by omega⟩, er]
    rfl
  generalize hR : (rhoT Q p W 1) = R at *
  obtain ⟨q1, q2, q3⟩ := rb
  obtain ⟨w1, w2, w3⟩ := h60
  obtain ⟨n1, n2, n3⟩ := hn
  obtain ⟨g0, g1, g2⟩ := hw
  simp only [Nat.zero_add] at g0 g1 g2
  have pv := pr R.2.2 W.2.2 (by omega) (by omega)
  have po := pr R.1 W.1 (by omega) (by omega)
  have nvv := Int.mul_nonneg (by omega : 0 ≤ R.2.2) (by omega : 0 ≤ W.2.2)
  have noo := Int.mul_nonneg (by omega : 0 ≤ R.1) (by omega : 0 ≤ W.1)
  have E9 : ((w 1 + Int32.ofInt R.2.2 * w 2) + Int32.ofInt R.1 * w 0) / ix p = Int32.ofInt ((W.2.1 + R.2.2 * W.2.2 + R.1 * W.1) / (p : Int)) := by
    rw [g1, g2, g0, ← Int32.ofInt_mul, ← Int32.ofInt_mul, ← Int32.ofInt_add, ← Int32.ofInt_add]
    unfold ix
    rw [zi_div ⟨by omega, by omega⟩ rp, Int.tdiv_eq_ediv_of_nonneg (by omega)]
  have hon : 0 ≤ (W.2.1 + R.2.2 * W.2.2 + R.1 * W.1) / (p : Int) ∧ (W.2.1 + R.2.2 * W.2.2 + R.1 * W.1) / (p : Int) ≤ 1000 := by
    constructor
    · exact Int.ediv_nonneg (by omega) (by omega)
    · have k1 : R.2.2 * W.2.2 ≤ 360 := by
        have := b4_mul (A := 6) (B := 60) (x := R.2.2) (y := W.2.2) ⟨by omega, by omega⟩ ⟨by omega, by omega⟩
        omega
      have k2 : R.1 * W.1 ≤ 360 := by
        have := b4_mul (A := 6) (B := 60) (x := R.1) (y := W.1) ⟨by omega, by omega⟩ ⟨by omega, by omega⟩
        omega
      have := Int.ediv_le_self (a := W.2.1 + R.2.2 * W.2.2 + R.1 * W.1) (p : Int) (by omega)
      omega
  have hV : col 2 W = W.2.2 := rfl
  have hO : col 0 W = W.1 := rfl
  have E10 : fX2_inverseOf F (ix p) (w 2) = some (Int32.ofInt (ivm p W.2.2)) := by rw [g2]; exact x2_inv hp ⟨by omega, by omega⟩ hF
  have gv := ivm_b p W.2.2
  have E11 : fJ9_floorMod_7cf53 (Int32.ofInt (ivm p W.2.2) * w 0) (ix p) = some (Int32.ofInt ((ivm p W.2.2 * W.1) % (p : Int))) := by
    have h9 := pr _ W.1 ⟨by omega, gv.2⟩ ⟨by omega, by omega⟩
    rw [g0, ← Int32.ofInt_mul, fm _ ⟨by omega, by omega⟩]
  have E12 : fJ9_floorMod_7cf53 (Int32.ofInt (ivm p W.2.2) * Int32.ofInt ((W.2.1 + R.2.2 * W.2.2 + R.1 * W.1) / (p : Int))) (ix p) = some (Int32.ofInt ((ivm p W.2.2 * ((W.2.1 + R.2.2 * W.2.2 + R.1 * W.1) / (p : Int))) % (p : Int))) := by
    have h9 := pr _ ((W.2.1 + R.2.2 * W.2.2 + R.1 * W.1) / (p : Int)) ⟨by omega, gv.2⟩ ⟨by omega, by omega⟩
    rw [← Int32.ofInt_mul, fm _ ⟨by omega, by omega⟩]
  have main : lay_k F (ix p) 1 six w b 2 = some (upd (upd (upd (upd (upd (upd (upd (upd (upd b 2 1) 0 (Int32.ofInt ((ivm p W.2.2 * W.1) % (p : Int)))) 1 (((ix p * Int32.ofInt ((ivm p W.2.2 * ((W.2.1 + R.2.2 * W.2.2 + R.1 * W.1) / (p : Int))) % (p : Int))) - Int32.ofInt R.2.2) - (Int32.ofInt ((ivm p W.2.2 * W.1) % (p : Int)) * Int32.ofInt R.1))) 5 0) 3 1) 4 (-Int32.ofInt R.1)) 8 0) 6 0) 7 (ix p)) := by
    unfold lay_k
    have o1 : ((3 : Int32) - 1) - 2 = 0 := by decide
    have N0 : (0 : Int32).toNatClampNeg = 0 := by decide
    have N1 : (1 : Int32).toNatClampNeg = 1 := by decide
    have N2 : (2 : Int32).toNatClampNeg = 2 := by decide
    have N3 : ((3 : Int32) + 0).toNatClampNeg = 3 := by decide
    have N4 : ((3 : Int32) + 1).toNatClampNeg = 4 := by decide
    have N5 : ((3 : Int32) + 2).toNatClampNeg = 5 := by decide
    have N6 : ((6 : Int32) + 0).toNatClampNeg = 6 := by decide
    have N7 : ((6 : Int32) + 1).toNatClampNeg = 7 := by decide
    have N8 : ((6 : Int32) + 2).toNatClampNeg = 8 := by decide
    have i3 : okI (1 : Int32) 3 ∧ okI (2 : Int32) 3 ∧ okI (0 : Int32) 3 := by decide
    have i9 : okI (1 : Int32) 9 ∧ okI (2 : Int32) 9 ∧ okI (0 : Int32) 9 := by decide
    have j9 : okI ((3 : Int32) + 1) 9 ∧ okI ((3 : Int32) + 2) 9 ∧ okI ((3 : Int32) + 0) 9 := by decide
    have k9 : okI ((6 : Int32) + 1) 9 ∧ okI ((6 : Int32) + 2) 9 ∧ okI ((6 : Int32) + 0) 9 := by decide
    rw [nm_eq, o1, E1, bd1_s, E2, bd1_s, E3, bd1_s, E4, bd1_s, E5, bd1_s, E6, bd1_s, E7, bd1_s, E8, bd1_s]
    rw [if_pos i3.1, if_pos i3.2.1, if_pos i3.2.2, if_pos hne, nm_eq]
    have E9' : ((w (1 : Int32).toNatClampNeg + Int32.ofInt R.2.2 * w (2 : Int32).toNatClampNeg) + Int32.ofInt R.1 * w (0 : Int32).toNatClampNeg) / ix p = Int32.ofInt ((W.2.1 + R.2.2 * W.2.2 + R.1 * W.1) / (p : Int)) := by rw [N0, N1, N2]; exact E9
    have E10' : fX2_inverseOf F (ix p) (w (2 : Int32).toNatClampNeg) = some (Int32.ofInt (ivm p W.2.2)) := by rw [N2]; exact E10
    have E11' : fJ9_floorMod_7cf53 (Int32.ofInt (ivm p W.2.2) * w (0 : Int32).toNatClampNeg) (ix p) = some (Int32.ofInt ((ivm p W.2.2 * W.1) % (p : Int))) := by rw [N0]; exact E11
    rw [E9', if_pos i3.2.1, E10', bd1_s, if_pos i3.2.2, E11', bd1_s, E12, bd1_s]
    rw [if_pos i9.2.1, nm_eq, if_pos i9.2.2, nm_eq, if_pos i9.1, nm_eq, nm_eq, if_pos j9.2.1, nm_eq, nm_eq, if_pos j9.2.2, nm_eq, nm_eq, if_pos j9.1, nm_eq, nm_eq, if_pos k9.2.1, nm_eq, nm_eq, if_pos k9.2.2, nm_eq, nm_eq, if_pos k9.1, nm_eq]
    rw [N0, N1, N2, N3, N4, N5, N6, N7, N8]
  rw [main]
  refine ⟨_, rfl, ?_⟩
  unfold nbC
  rw [ivm_mod hp]
  refine ⟨?_, ?_, ?_, ?_, ?_, ?_, ?_, ?_, ?_⟩ <;> simp [upd, ofc, col, ix]
set_option maxRecDepth 10000 in
theorem lay_20 {six w : Nat → Int32} {Q : F6} {W : V3} {p : Nat} (hp : p = 3 ∨ p = 5 ∨ p = 7) (hs : a6 six Q) (hq : qs_ Q) (hw : av w 0 W) (h60 : v60 W) (hn : nv W) (b : Nat → Int32) {F : Nat} (hF : 100 ≤ F) : ∃ b', lay_k F (ix p) 2 six w b 0 = some b' ∧ a9 b' (nbC p 2 0 (rhoT Q p W 2) W) := by
  have hun : ∀ k, v60 (un k) := by
    intro k
    unfold un v60
    split
    · decide
    · split <;> decide
  have hT : ∀ k, rI (qf_tch Q W (un k)) := fun k => by
    have := qs_tch hq (v := W) (w := un k) h60 (hun k)
    exact ⟨by omega, by omega⟩
  have hp0 : (0 : Int) < p := by omega
  have hne : ¬ ix p = 0 := by rw [ix_0, ix_eq (by omega) (by omega)]; omega
  have rp : rI (p : Int) := ⟨by omega, by omega⟩
  have fm : ∀ x : Int, rI x → fJ9_floorMod_7cf53 (Int32.ofInt x) (ix p) = some (Int32.ofInt (x % (p : Int))) := fun x hx => zi_floorMod hx rp hp0
  have E1 : fX4_touchUnit 3 six w 0 2 = some (Int32.ofInt (qf_tch Q W (un 2))) := x4_tu2 hs hw (by decide) (by decide)
  have E2 := x2_inv hp (hT 2) hF
  have E3 : fX4_touchUnit 3 six w 0 0 = some (Int32.ofInt (qf_tch Q W (un 0))) := x4_tu0 hs hw (by decide) (by decide)
  have E4 := fm _ (hT 0)
  have E6 : fX4_touchUnit 3 six w 0 1 = some (Int32.ofInt (qf_tch Q W (un 1))) := x4_tu1 hs hw (by decide) (by decide)
  have E7 := fm _ (hT 1)
  have gb := ivm_b p (qf_tch Q W (un 2))
  have rb := rho_b (Q := Q) hp W 2
  have mb : ∀ x : Int, 0 ≤ x % (p : Int) ∧ x % (p : Int) ≤ 6 := fun T => by
    have h1 := Int.emod_nonneg T (by omega : (p : Int) ≠ 0)
    have h2 := Int.emod_lt_of_pos T hp0
    omega
  have pr : ∀ x y : Int, 0 ≤ x ∧ x ≤ 6 → -1000 ≤ y ∧ y ≤ 1000 → -6000 ≤ x * y ∧ x * y ≤ 6000 := fun x y hx hy => by
    have := b4_mul (A := 6) (B := 1000) (x := x) (y := y) ⟨by omega, by omega⟩ hy
    omega
  have er : ∀ T : Int, (ivm p (qf_tch Q W (un 2)) * (T % (p : Int))) % (p : Int) = (T * ivm p (qf_tch Q W (un 2))) % (p : Int) := fun T => by rw [Int.mul_emod, Int.emod_emod, ← Int.mul_emod, Int.mul_comm]
  have E5 : fJ9_floorMod_7cf53 (Int32.ofInt (ivm p (qf_tch Q W (un 2))) * Int32.ofInt (qf_tch Q W (un 0) % (p : Int))) (ix p) = some (Int32.ofInt (rhoT Q p W 2).1) := by
    have h9 := pr _ _ ⟨by omega, gb.2⟩ (by have := mb (qf_tch Q W (un 0)); omega : -1000 ≤ qf_tch Q W (un 0) % (p : Int) ∧ qf_tch Q W (un 0) % (p : Int) ≤ 1000)
    rw [← Int32.ofInt_mul, fm _ ⟨by omega, by omega⟩, er]
    rfl
  have E8 : fJ9_floorMod_7cf53 (Int32.ofInt (ivm p (qf_tch Q W (un 2))) * Int32.ofInt (qf_tch Q W (un 1) % (p : Int))) (ix p) = some (Int32.ofInt (rhoT Q p W 2).2.1) := by
    have h9 := pr _ _ ⟨by omega, gb.2⟩ (by have := mb (qf_tch Q W (un 1)); omega : -1000 ≤ qf_tch Q W (un 1) % (p : Int) ∧ qf_tch Q W (un 1) % (p : Int) ≤ 1000)
    rw [← Int32.ofInt_mul, fm _ ⟨by omega, by omega⟩, er]
    rfl
  generalize hR : (rhoT Q p W 2) = R at *
  obtain ⟨q1, q2, q3⟩ := rb
  obtain ⟨w1, w2, w3⟩ := h60
  obtain ⟨n1, n2, n3⟩ := hn
  obtain ⟨g0, g1, g2⟩ := hw
  simp only [Nat.zero_add] at g0 g1 g2
  have pv := pr R.1 W.1 (by omega) (by omega)
  have po := pr R.2.1 W.2.1 (by omega) (by omega)
  have nvv := Int.mul_nonneg (by omega : 0 ≤ R.1) (by omega : 0 ≤ W.1)
  have noo := Int.mul_nonneg (by omega : 0 ≤ R.2.1) (by omega : 0 ≤ W.2.1)
  have E9 : ((w 2 + Int32.ofInt R.1 * w 0) + Int32.ofInt R.2.1 * w 1) / ix p = Int32.ofInt ((W.2.2 + R.1 * W.1 + R.2.1 * W.2.1) / (p : Int)) := by
    rw [g2, g0, g1, ← Int32.ofInt_mul, ← Int32.ofInt_mul, ← Int32.ofInt_add, ← Int32.ofInt_add]
    unfold ix
    rw [zi_div ⟨by omega, by omega⟩ rp, Int.tdiv_eq_ediv_of_nonneg (by omega)]
  have hon : 0 ≤ (W.2.2 + R.1 * W.1 + R.2.1 * W.2.1) / (p : Int) ∧ (W.2.2 + R.1 * W.1 + R.2.1 * W.2.1) / (p : Int) ≤ 1000 := by
    constructor
    · exact Int.ediv_nonneg (by omega) (by omega)
    · have k1 : R.1 * W.1 ≤ 360 := by
        have := b4_mul (A := 6) (B := 60) (x := R.1) (y := W.1) ⟨by omega, by omega⟩ ⟨by omega, by omega⟩
        omega
      have k2 : R.2.1 * W.2.1 ≤ 360 := by
        have := b4_mul (A := 6) (B := 60) (x := R.2.1) (y := W.2.1) ⟨by omega, by omega⟩ ⟨by omega, by omega⟩
        omega
      have := Int.ediv_le_self (a := W.2.2 + R.1 * W.1 + R.2.1 * W.2.1) (p : Int) (by omega)
      omega
  have hV : col 0 W = W.1 := rfl
  have hO : col 1 W = W.2.1 := rfl
  have E10 : fX2_inverseOf F (ix p) (w 0) = some (Int32.ofInt (ivm p W.1)) := by rw [g0]; exact x2_inv hp ⟨by omega, by omega⟩ hF
  have gv := ivm_b p W.1
  have E11 : fJ9_floorMod_7cf53 (Int32.ofInt (ivm p W.1) * w 1) (ix p) = some (Int32.ofInt ((ivm p W.1 * W.2.1) % (p : Int))) := by
    have h9 := pr _ W.2.1 ⟨by omega, gv.2⟩ ⟨by omega, by omega⟩
    rw [g1, ← Int32.ofInt_mul, fm _ ⟨by omega, by omega⟩]
  have E12 : fJ9_floorMod_7cf53 (Int32.ofInt (ivm p W.1) * Int32.ofInt ((W.2.2 + R.1 * W.1 + R.2.1 * W.2.1) / (p : Int))) (ix p) = some (Int32.ofInt ((ivm p W.1 * ((W.2.2 + R.1 * W.1 + R.2.1 * W.2.1) / (p : Int))) % (p : Int))) := by
    have h9 := pr _ ((W.2.2 + R.1 * W.1 + R.2.1 * W.2.1) / (p : Int)) ⟨by omega, gv.2⟩ ⟨by omega, by omega⟩
    rw [← Int32.ofInt_mul, fm _ ⟨by omega, by omega⟩]
  have main : lay_k F (ix p) 2 six w b 0 = some (upd (upd (upd (upd (upd (upd (upd (upd (upd b 0 1) 1 (Int32.ofInt ((ivm p W.1 * W.2.1) % (p : Int)))) 2 (((ix p * Int32.ofInt ((ivm p W.1 * ((W.2.2 + R.1 * W.1 + R.2.1 * W.2.1) / (p : Int))) % (p : Int))) - Int32.ofInt R.1) - (Int32.ofInt ((ivm p W.1 * W.2.1) % (p : Int)) * Int32.ofInt R.2.1))) 3 0) 4 1) 5 (-Int32.ofInt R.2.1)) 6 0) 7 0) 8 (ix p)) := by
    unfold lay_k
    have o1 : ((3 : Int32) - 2) - 0 = 1 := by decide
    have N0 : (0 : Int32).toNatClampNeg = 0 := by decide
    have N1 : (1 : Int32).toNatClampNeg = 1 := by decide
    have N2 : (2 : Int32).toNatClampNeg = 2 := by decide
    have N3 : ((3 : Int32) + 0).toNatClampNeg = 3 := by decide
    have N4 : ((3 : Int32) + 1).toNatClampNeg = 4 := by decide
    have N5 : ((3 : Int32) + 2).toNatClampNeg = 5 := by decide
    have N6 : ((6 : Int32) + 0).toNatClampNeg = 6 := by decide
    have N7 : ((6 : Int32) + 1).toNatClampNeg = 7 := by decide
    have N8 : ((6 : Int32) + 2).toNatClampNeg = 8 := by decide
    have i3 : okI (2 : Int32) 3 ∧ okI (0 : Int32) 3 ∧ okI (1 : Int32) 3 := by decide
    have i9 : okI (2 : Int32) 9 ∧ okI (0 : Int32) 9 ∧ okI (1 : Int32) 9 := by decide
    have j9 : okI ((3 : Int32) + 2) 9 ∧ okI ((3 : Int32) + 0) 9 ∧ okI ((3 : Int32) + 1) 9 := by decide
    have k9 : okI ((6 : Int32) + 2) 9 ∧ okI ((6 : Int32) + 0) 9 ∧ okI ((6 : Int32) + 1) 9 := by decide
    rw [nm_eq, o1, E1, bd1_s, E2, bd1_s, E3, bd1_s, E4, bd1_s, E5, bd1_s, E6, bd1_s, E7, bd1_s, E8, bd1_s]
    rw [if_pos i3.1, if_pos i3.2.1, if_pos i3.2.2, if_pos hne, nm_eq]
    have E9' : ((w (2 : Int32).toNatClampNeg + Int32.ofInt R.1 * w (0 : Int32).toNatClampNeg) + Int32.ofInt R.2.1 * w (1 : Int32).toNatClampNeg) / ix p = Int32.ofInt ((W.2.2 + R.1 * W.1 + R.2.1 * W.2.1) / (p : Int)) := by rw [N0, N1, N2]; exact E9
    have E10' : fX2_inverseOf F (ix p) (w (0 : Int32).toNatClampNeg) = some (Int32.ofInt (ivm p W.1)) := by rw [N0]; exact E10
    have E11' : fJ9_floorMod_7cf53 (Int32.ofInt (ivm p W.1) * w (1 : Int32).toNatClampNeg) (ix p) = some (Int32.ofInt ((ivm p W.1 * W.2.1) % (p : Int))) := by rw [N1]; exact E11
    rw [E9', if_pos i3.2.1, E10', bd1_s, if_pos i3.2.2, E11', bd1_s, E12, bd1_s]
    rw [if_pos i9.2.1, nm_eq, if_pos i9.2.2, nm_eq, if_pos i9.1, nm_eq, nm_eq, if_pos j9.2.1, nm_eq, nm_eq, if_pos j9.2.2, nm_eq, nm_eq, if_pos j9.1, nm_eq, nm_eq, if_pos k9.2.1, nm_eq, nm_eq, if_pos k9.2.2, nm_eq, nm_eq, if_pos k9.1, nm_eq]
    rw [N0, N1, N2, N3, N4, N5, N6, N7, N8]
  rw [main]
  refine ⟨_, rfl, ?_⟩
  unfold nbC
  rw [ivm_mod hp]
  refine ⟨?_, ?_, ?_, ?_, ?_, ?_, ?_, ?_, ?_⟩ <;> simp [upd, ofc, col, ix]
set_option maxRecDepth 10000 in
theorem lay_21 {six w : Nat → Int32} {Q : F6} {W : V3} {p : Nat} (hp : p = 3 ∨ p = 5 ∨ p = 7) (hs : a6 six Q) (hq : qs_ Q) (hw : av w 0 W) (h60 : v60 W) (hn : nv W) (b : Nat → Int32) {F : Nat} (hF : 100 ≤ F) : ∃ b', lay_k F (ix p) 2 six w b 1 = some b' ∧ a9 b' (nbC p 2 1 (rhoT Q p W 2) W) := by
  have hun : ∀ k, v60 (un k) := by
    intro k
    unfold un v60
    split
    · decide
    · split <;> decide
  have hT : ∀ k, rI (qf_tch Q W (un k)) := fun k => by
    have := qs_tch hq (v := W) (w := un k) h60 (hun k)
    exact ⟨by omega, by omega⟩
  have hp0 : (0 : Int) < p := by omega
  have hne : ¬ ix p = 0 := by rw [ix_0, ix_eq (by omega) (by omega)]; omega
  have rp : rI (p : Int) := ⟨by omega, by omega⟩
  have fm : ∀ x : Int, rI x → fJ9_floorMod_7cf53 (Int32.ofInt x) (ix p) = some (Int32.ofInt (x % (p : Int))) := fun x hx => zi_floorMod hx rp hp0
  have E1 : fX4_touchUnit 3 six w 0 2 = some (Int32.ofInt (qf_tch Q W (un 2))) := x4_tu2 hs hw (by decide) (by decide)
  have E2 := x2_inv hp (hT 2) hF
  have E3 : fX4_touchUnit 3 six w 0 1 = some (Int32.ofInt (qf_tch Q W (un 1))) := x4_tu1 hs hw (by decide) (by decide)
  have E4 := fm _ (hT 1)
  have E6 : fX4_touchUnit 3 six w 0 0 = some (Int32.ofInt (qf_tch Q W (un 0))) := x4_tu0 hs hw (by decide) (by decide)
  have E7 := fm _ (hT 0)
  have gb := ivm_b p (qf_tch Q W (un 2))
  have rb := rho_b (Q := Q) hp W 2
  have mb : ∀ x : Int, 0 ≤ x % (p : Int) ∧ x % (p : Int) ≤ 6 := fun T => by
    have h1 := Int.emod_nonneg T (by omega : (p : Int) ≠ 0)
    have h2 := Int.emod_lt_of_pos T hp0
    omega
  have pr : ∀ x y : Int, 0 ≤ x ∧ x ≤ 6 → -1000 ≤ y ∧ y ≤ 1000 → -6000 ≤ x * y ∧ x * y ≤ 6000 := fun x y hx hy => by
    have := b4_mul (A := 6) (B := 1000) (x := x) (y := y) ⟨by omega, by omega⟩ hy
    omega
  have er : ∀ T : Int, (ivm p (qf_tch Q W (un 2)) * (T % (p : Int))) % (p : Int) = (T * ivm p (qf_tch Q W (un 2))) % (p : Int) := fun T => by rw [Int.mul_emod, Int.emod_emod, ← Int.mul_emod, Int.mul_comm]
  have E5 : fJ9_floorMod_7cf53 (Int32.ofInt (ivm p (qf_tch Q W (un 2))) * Int32.ofInt (qf_tch Q W (un 1) % (p : Int))) (ix p) = some (Int32.ofInt (rhoT Q p W 2).2.1) := by
    have h9 := pr _ _ ⟨by omega, gb.2⟩ (by have := mb (qf_tch Q W (un 1)); omega : -1000 ≤ qf_tch Q W (un 1) % (p : Int) ∧ qf_tch Q W (un 1) % (p : Int) ≤ 1000)
    rw [← Int32.ofInt_mul, fm _ ⟨by omega, by omega⟩, er]
    rfl
  have E8 : fJ9_floorMod_7cf53 (Int32.ofInt (ivm p (qf_tch Q W (un 2))) * Int32.ofInt (qf_tch Q W (un 0) % (p : Int))) (ix p) = some (Int32.ofInt (rhoT Q p W 2).1) := by
    have h9 := pr _ _ ⟨by omega, gb.2⟩ (by have := mb (qf_tch Q W (un 0)); omega : -1000 ≤ qf_tch Q W (un 0) % (p : Int) ∧ qf_tch Q W (un 0) % (p : Int) ≤ 1000)
    rw [← Int32.ofInt_mul, fm _ ⟨by omega, by omega⟩, er]
    rfl
  generalize hR : (rhoT Q p W 2) = R at *
  obtain ⟨q1, q2, q3⟩ := rb
  obtain ⟨w1, w2, w3⟩ := h60
  obtain ⟨n1, n2, n3⟩ := hn
  obtain ⟨g0, g1, g2⟩ := hw
  simp only [Nat.zero_add] at g0 g1 g2
  have pv := pr R.2.1 W.2.1 (by omega) (by omega)
  have po := pr R.1 W.1 (by omega) (by omega)
  have nvv := Int.mul_nonneg (by omega : 0 ≤ R.2.1) (by omega : 0 ≤ W.2.1)
  have noo := Int.mul_nonneg (by omega : 0 ≤ R.1) (by omega : 0 ≤ W.1)
  have E9 : ((w 2 + Int32.ofInt R.2.1 * w 1) + Int32.ofInt R.1 * w 0) / ix p = Int32.ofInt ((W.2.2 + R.2.1 * W.2.1 + R.1 * W.1) / (p : Int)) := by
    rw [g2, g1, g0, ← Int32.ofInt_mul, ← Int32.ofInt_mul, ← Int32.ofInt_add, ← Int32.ofInt_add]
    unfold ix
    rw [zi_div ⟨by omega, by omega⟩ rp, Int.tdiv_eq_ediv_of_nonneg (by omega)]
  have hon : 0 ≤ (W.2.2 + R.2.1 * W.2.1 + R.1 * W.1) / (p : Int) ∧ (W.2.2 + R.2.1 * W.2.1 + R.1 * W.1) / (p : Int) ≤ 1000 := by
    constructor
    · exact Int.ediv_nonneg (by omega) (by omega)
    · have k1 : R.2.1 * W.2.1 ≤ 360 := by
        have := b4_mul (A := 6) (B := 60) (x := R.2.1) (y := W.2.1) ⟨by omega, by omega⟩ ⟨by omega, by omega⟩
        omega
      have k2 : R.1 * W.1 ≤ 360 := by
        have := b4_mul (A := 6) (B := 60) (x := R.1) (y := W.1) ⟨by omega, by omega⟩ ⟨by omega, by omega⟩
        omega
      have := Int.ediv_le_self (a := W.2.2 + R.2.1 * W.2.1 + R.1 * W.1) (p : Int) (by omega)
      omega
  have hV : col 1 W = W.2.1 := rfl
  have hO : col 0 W = W.1 := rfl
  have E10 : fX2_inverseOf F (ix p) (w 1) = some (Int32.ofInt (ivm p W.2.1)) := by rw [g1]; exact x2_inv hp ⟨by omega, by omega⟩ hF
  have gv := ivm_b p W.2.1
  have E11 : fJ9_floorMod_7cf53 (Int32.ofInt (ivm p W.2.1) * w 0) (ix p) = some (Int32.ofInt ((ivm p W.2.1 * W.1) % (p : Int))) := by
    have h9 := pr _ W.1 ⟨by omega, gv.2⟩ ⟨by omega, by omega⟩
    rw [g0, ← Int32.ofInt_mul, fm _ ⟨by omega, by omega⟩]
  have E12 : fJ9_floorMod_7cf53 (Int32.ofInt (ivm p W.2.1) * Int32.ofInt ((W.2.2 + R.2.1 * W.2.1 + R.1 * W.1) / (p : Int))) (ix p) = some (Int32.ofInt ((ivm p W.2.1 * ((W.2.2 + R.2.1 * W.2.1 + R.1 * W.1) / (p : Int))) % (p : Int))) := by
    have h9 := pr _ ((W.2.2 + R.2.1 * W.2.1 + R.1 * W.1) / (p : Int)) ⟨by omega, gv.2⟩ ⟨by omega, by omega⟩
    rw [← Int32.ofInt_mul, fm _ ⟨by omega, by omega⟩]
  have main : lay_k F (ix p) 2 six w b 1 = some (upd (upd (upd (upd (upd (upd (upd (upd (upd b 1 1) 0 (Int32.ofInt ((ivm p W.2.1 * W.1) % (p : Int)))) 2 (((ix p * Int32.ofInt ((ivm p W.2.1 * ((W.2.2 + R.2.1 * W.2.1 + R.1 * W.1) / (p : Int))) % (p : Int))) - Int32.ofInt R.2.1) - (Int32.ofInt ((ivm p W.2.1 * W.1) % (p : Int)) * Int32.ofInt R.1))) 4 0) 3 1) 5 (-Int32.ofInt R.1)) 7 0) 6 0) 8 (ix p)) := by
    unfold lay_k
    have o1 : ((3 : Int32) - 2) - 1 = 0 := by decide
    have N0 : (0 : Int32).toNatClampNeg = 0 := by decide
    have N1 : (1 : Int32).toNatClampNeg = 1 := by decide
    have N2 : (2 : Int32).toNatClampNeg = 2 := by decide
    have N3 : ((3 : Int32) + 0).toNatClampNeg = 3 := by decide
    have N4 : ((3 : Int32) + 1).toNatClampNeg = 4 := by decide
    have N5 : ((3 : Int32) + 2).toNatClampNeg = 5 := by decide
    have N6 : ((6 : Int32) + 0).toNatClampNeg = 6 := by decide
    have N7 : ((6 : Int32) + 1).toNatClampNeg = 7 := by decide
    have N8 : ((6 : Int32) + 2).toNatClampNeg = 8 := by decide
    have i3 : okI (2 : Int32) 3 ∧ okI (1 : Int32) 3 ∧ okI (0 : Int32) 3 := by decide
    have i9 : okI (2 : Int32) 9 ∧ okI (1 : Int32) 9 ∧ okI (0 : Int32) 9 := by decide
    have j9 : okI ((3 : Int32) + 2) 9 ∧ okI ((3 : Int32) + 1) 9 ∧ okI ((3 : Int32) + 0) 9 := by decide
    have k9 : okI ((6 : Int32) + 2) 9 ∧ okI ((6 : Int32) + 1) 9 ∧ okI ((6 : Int32) + 0) 9 := by decide
    rw [nm_eq, o1, E1, bd1_s, E2, bd1_s, E3, bd1_s, E4, bd1_s, E5, bd1_s, E6, bd1_s, E7, bd1_s, E8, bd1_s]
    rw [if_pos i3.1, if_pos i3.2.1, if_pos i3.2.2, if_pos hne, nm_eq]
    have E9' : ((w (2 : Int32).toNatClampNeg + Int32.ofInt R.2.1 * w (1 : Int32).toNatClampNeg) + Int32.ofInt R.1 * w (0 : Int32).toNatClampNeg) / ix p = Int32.ofInt ((W.2.2 + R.2.1 * W.2.1 + R.1 * W.1) / (p : Int)) := by rw [N0, N1, N2]; exact E9
    have E10' : fX2_inverseOf F (ix p) (w (1 : Int32).toNatClampNeg) = some (Int32.ofInt (ivm p W.2.1)) := by rw [N1]; exact E10
    have E11' : fJ9_floorMod_7cf53 (Int32.ofInt (ivm p W.2.1) * w (0 : Int32).toNatClampNeg) (ix p) = some (Int32.ofInt ((ivm p W.2.1 * W.1) % (p : Int))) := by rw [N0]; exact E11
    rw [E9', if_pos i3.2.1, E10', bd1_s, if_pos i3.2.2, E11', bd1_s, E12, bd1_s]
    rw [if_pos i9.2.1, nm_eq, if_pos i9.2.2, nm_eq, if_pos i9.1, nm_eq, nm_eq, if_pos j9.2.1, nm_eq, nm_eq, if_pos j9.2.2, nm_eq, nm_eq, if_pos j9.1, nm_eq, nm_eq, if_pos k9.2.1, nm_eq, nm_eq, if_pos k9.2.2, nm_eq, nm_eq, if_pos k9.1, nm_eq]
    rw [N0, N1, N2, N3, N4, N5, N6, N7, N8]
  rw [main]
  refine ⟨_, rfl, ?_⟩
  unfold nbC
  rw [ivm_mod hp]
  refine ⟨?_, ?_, ?_, ?_, ?_, ?_, ?_, ?_, ?_⟩ <;> simp [upd, ofc, col, ix]
