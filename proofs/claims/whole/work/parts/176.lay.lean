/-! neighbours: the class's inverseOf and turn -/
theorem x2_inv1 (f : Nat) : (∀ r : Nat, r < 3 → fX2_inverseOf_L14 (ix 3) (ix r) (f + 10) 1 1 = some (Int32.ofInt (ivm 3 (r : Int)))) ∧ (∀ r : Nat, r < 5 → fX2_inverseOf_L14 (ix 5) (ix r) (f + 10) 1 1 = some (Int32.ofInt (ivm 5 (r : Int)))) ∧ (∀ r : Nat, r < 7 → fX2_inverseOf_L14 (ix 7) (ix r) (f + 10) 1 1 = some (Int32.ofInt (ivm 7 (r : Int)))) := by
  refine ⟨fun r hr => ?_, fun r hr => ?_, fun r hr => ?_⟩
  · have : r = 0 ∨ r = 1 ∨ r = 2 := by omega
    rcases this with e | e | e <;> subst e <;> rfl
  · have : r = 0 ∨ r = 1 ∨ r = 2 ∨ r = 3 ∨ r = 4 := by omega
    rcases this with e | e | e | e | e <;> subst e <;> rfl
  · have : r = 0 ∨ r = 1 ∨ r = 2 ∨ r = 3 ∨ r = 4 ∨ r = 5 ∨ r = 6 := by omega
    rcases this with e | e | e | e | e | e | e <;> subst e <;> rfl
theorem x2_inv {p : Nat} (hp : p = 3 ∨ p = 5 ∨ p = 7) {x : Int} (hx : rI x) {F : Nat} (hF : 100 ≤ F) : fX2_inverseOf F (ix p) (Int32.ofInt x) = some (Int32.ofInt (ivm p x)) := by
  have hp0 : (0 : Int) < p := by omega
  unfold fX2_inverseOf
  have e1 : ix p = Int32.ofInt (p : Int) := rfl
  have h1 := zi_floorMod (a := x) (b := (p : Int)) hx ⟨by omega, by omega⟩ hp0
  rw [← e1] at h1
  rw [h1]
  simp only [bd1]
  have hr := Int.emod_nonneg x (by omega : (p : Int) ≠ 0)
  have hr2 := Int.emod_lt_of_pos x hp0
  have e2 : Int32.ofInt (x % (p : Int)) = ix (x % (p : Int)).toNat := by unfold ix; congr 1; omega
  have e3 : (((x % (p : Int)).toNat : Nat) : Int) = x % (p : Int) := by omega
  obtain ⟨f, rfl⟩ : ∃ f, F = f + 10 := ⟨F - 10, by omega⟩
  rw [e2]
  have hall := x2_inv1 f
  rw [← ivm_mod hp x, ← e3]
  generalize (x % (p : Int)).toNat = r at *
  rcases hp with e | e | e <;> subst e
  · exact hall.1 r (by omega)
  · exact hall.2.1 r (by omega)
  · exact hall.2.2 r (by omega)
theorem x4_turn {s rows : Nat → Int32} {Q : F6} {M : T9} (hs : a6 s Q) (hM : a9 rows M) (into : Nat → Int32) {F : Nat} (hF : 100 ≤ F) : ∃ into', fX4_turn F 9 s rows into = some into' ∧ a6 into' (qf_trn Q M) := by
  obtain ⟨h0, h1, h2, h3, h4, h5, h6, h7, h8⟩ := hM
  have v0 : av rows 0 M.1 := ⟨h0, h1, h2⟩
  have v3 : av rows 3 M.2.1 := ⟨h3, h4, h5⟩
  have v6 : av rows 6 M.2.2 := ⟨h6, h7, h8⟩
  have a0 : fX4_atRow 9 s rows (3 * 0) = some (Int32.ofInt (qf_val Q M.1)) := x4_atRow hs v0 (by decide) (by decide)
  have a1 : fX4_atRow 9 s rows (3 * 1) = some (Int32.ofInt (qf_val Q M.2.1)) := x4_atRow hs v3 (by decide) (by decide)
  have a2 : fX4_atRow 9 s rows (3 * 2) = some (Int32.ofInt (qf_val Q M.2.2)) := x4_atRow hs v6 (by decide) (by decide)
  have t1 : fX4_touch 9 s rows 3 6 = some (Int32.ofInt (qf_tch Q M.2.1 M.2.2)) := x4_touch hs v3 v6 (by decide) (by decide) (by decide)
  have t2 : fX4_touch 9 s rows 0 6 = some (Int32.ofInt (qf_tch Q M.1 M.2.2)) := x4_touch hs v0 v6 (by decide) (by decide) (by decide)
  have t3 : fX4_touch 9 s rows 0 3 = some (Int32.ofInt (qf_tch Q M.1 M.2.1)) := x4_touch hs v0 v3 (by decide) (by decide) (by decide)
  have st : ∀ (k24 : (Nat → Int32) → Option (Nat → Int32)) (n : Nat) (i : Nat → Int32), fX4_turn_L2 k24 9 s rows (n + 4) 0 i = k24 (upd (upd (upd i 0 (Int32.ofInt (qf_val Q M.1))) 1 (Int32.ofInt (qf_val Q M.2.1))) 2 (Int32.ofInt (qf_val Q M.2.2))) := by
    intro k24 n i
    rw [fX4_turn_L2, if_neg (by decide), a0]
    simp only [bd1, nm_eq]
    rw [if_pos (by decide)]
    have e1 : (0 : Int32) + 1 = 1 := by decide
    rw [e1, fX4_turn_L2, if_neg (by decide), a1]
    simp only [bd1, nm_eq]
    rw [if_pos (by decide)]
    have e2 : (1 : Int32) + 1 = 2 := by decide
    rw [e2, fX4_turn_L2, if_neg (by decide), a2]
    simp only [bd1, nm_eq]
    rw [if_pos (by decide)]
    have e3 : (2 : Int32) + 1 = 3 := by decide
    rw [e3, fX4_turn_L2, if_pos (by decide)]
    rfl
  obtain ⟨f, rfl⟩ : ∃ f, F = f + 4 := ⟨F - 4, by omega⟩
  unfold fX4_turn
  simp only [nm_eq]
  rw [st, t1, t2, t3]
  simp only [bd1]
  refine ⟨_, rfl, ?_⟩
  refine ⟨?_, ?_, ?_, ?_, ?_, ?_⟩ <;> simp [upd, qf_trn]
theorem x4_alike {s r : Nat → Int32} {Q L : F6} (hs : a6 s Q) (hr : a6 r L) (hQ : ∀ x ∈ l6 Q, rI x) (hL : ∀ x ∈ l6 L, rI x) {F : Nat} (hF : 100 ≤ F) : fX4_areAlike F s r = some (if Q = L then 1 else 0) := by
  obtain ⟨f, rfl⟩ : ∃ f, F = f + 7 := ⟨F - 7, by omega⟩
  have main : fX4_areAlike (f + 7) s r = if s 0 = r 0 then (if s 1 = r 1 then (if s 2 = r 2 then (if s 3 = r 3 then (if s 4 = r 4 then (if s 5 = r 5 then some 1 else some 0) else some 0) else some 0) else some 0) else some 0) else some 0 := rfl
  rw [main]
  obtain ⟨h0, h1, h2, h3, h4, h5⟩ := hs
  obtain ⟨g0, g1, g2, g3, g4, g5⟩ := hr
  simp only [l6, List.mem_cons, List.not_mem_nil, or_false, forall_eq_or_imp, forall_eq] at hQ hL
  obtain ⟨q0, q1, q2, q3, q4, q5⟩ := hQ
  obtain ⟨p0, p1, p2, p3, p4, p5⟩ := hL
  simp only [h0, h1, h2, h3, h4, h5, g0, g1, g2, g3, g4, g5, zi_eq q0 p0, zi_eq q1 p1, zi_eq q2 p2, zi_eq q3 p3, zi_eq q4 p4, zi_eq q5 p5]
  obtain ⟨a, b, c, d, e, f'⟩ := Q
  obtain ⟨a', b', c', d', e', f''⟩ := L
  simp only [Prod.mk.injEq]
  by_cases k0 : a = a' <;> by_cases k1 : b = b' <;> by_cases k2 : c = c' <;> by_cases k3 : d = d' <;> by_cases k4 : e = e' <;> by_cases k5 : f' = f'' <;> simp [k0, k1, k2, k3, k4, k5]
