/-! the call turns -/
abbrev OT3 : Type := Option (Int32 × (Nat → Int32) × (Nat → Int32))
theorem x6_row (gr : Nat → Int32) {r : Nat} (hr : r < 3) (a b c : Int32) : fX6_giveRow gr (ix r) a b c = some (upd (upd (upd gr (3 * r) a) (3 * r + 1) b) (3 * r + 2) c) := by
  have i0 : (3 : Int32) * ix r = ix (3 * r) := by rw [ix_3, ix_mul]
  have i1 : (3 : Int32) * ix r + 1 = ix (3 * r + 1) := by rw [i0, ix_1, ix_add]
  have i2 : (3 : Int32) * ix r + 2 = ix (3 * r + 2) := by rw [i0, ix_2, ix_add]
  unfold fX6_giveRow
  dsimp only [nm_eq]
  simp only [i1, i2]
  simp only [i0]
  rw [if_pos (ix_ok (by omega) (by decide)), if_pos (ix_ok (by omega) (by decide)), if_pos (ix_ok (by omega) (by decide)), ix_nat (by omega), ix_nat (by omega), ix_nat (by omega)]
theorem t54_s (K : OT3) {gr : Nat → Int32} (td : Nat → Int32) {m : Nat} (hm : m < 9) {x : Int} (hx : rI x) (hg : gr m = Int32.ofInt x) (n : Nat) : fX6_turns_L54 K gr td (n + 1) (ix m) = if -20 ≤ x ∧ x ≤ 20 then fX6_turns_L54 K gr td n (ix (m + 1)) else some (-100002, gr, td) := by
  have o1 : fX6_isOutside (Int32.ofInt x) (-20) 20 = some (if -20 ≤ x ∧ x ≤ 20 then 0 else 1) := x6_outL hx (a := -20) (b := 20) (by decide) (by decide) ⟨by omega, by omega⟩ ⟨by omega, by omega⟩
  rw [fX6_turns_L54, if_neg (by rw [ix_9, ix_le (by decide) (by omega)]; omega), if_pos (ix_ok hm (by decide)), ix_nat (by omega), hg, o1, bd1_s]
  by_cases g : -20 ≤ x ∧ x ≤ 20
  · rw [if_pos g, if_pos z00, if_pos g]
    dsimp only [nm_eq]
    rw [ix_1, ix_add]
  · rw [if_neg g, if_neg n10, if_neg g]
theorem t54_0 (K : OT3) {gr : Nat → Int32} (td : Nat → Int32) {x : Int} (hx : rI x) (hg : gr 0 = Int32.ofInt x) (n : Nat) : fX6_turns_L54 K gr td (n + 1) 0 = if -20 ≤ x ∧ x ≤ 20 then fX6_turns_L54 K gr td n (ix 1) else some (-100002, gr, td) := t54_s K td (m := 0) (by decide) hx hg n
theorem t54_9 (K : OT3) (gr td : Nat → Int32) (n : Nat) : fX6_turns_L54 K gr td (n + 1) (ix 9) = K := by
  rw [fX6_turns_L54, if_pos (by decide)]
theorem i20 {x : Int} (hx : rI x) : fX7_in (Int32.ofInt x).toInt64 (-20) 20 = some (if -20 ≤ x ∧ x ≤ 20 then 1 else 0) := x7_inL hx (a := -20) (b := 20) (by decide) (by decide) ⟨by omega, by omega⟩ ⟨by omega, by omega⟩
theorem i20p {x : Int} (hx : rI x) (h : -20 ≤ x ∧ x ≤ 20) : fX7_in (Int32.ofInt x).toInt64 (-20) 20 = some 1 := by rw [i20 hx, if_pos h]
theorem i20n {x : Int} (hx : rI x) (h : ¬ (-20 ≤ x ∧ x ≤ 20)) : fX7_in (Int32.ofInt x).toInt64 (-20) 20 = some 0 := by rw [i20 hx, if_neg h]
theorem t6_out {hc : Nat} (h1 : hc ≤ 12) {z y : Int} (hz : rI z) (hy : rI y) (g : 0 ≤ z ∧ z < hc) (gy : 0 ≤ y ∧ y < hc) (gr td fn gn : Nat → Int32) {x0 x1 x2 x3 x4 x5 x6 x7 x8 : Int} (r0 : rI x0) (r1 : rI x1) (r2 : rI x2) (r3 : rI x3) (r4 : rI x4) (r5 : rI x5) (r6 : rI x6) (r7 : rI x7) (r8 : rI x8) {fu : Nat} (hfu : 100 ≤ fu) : (∃ gr', (¬ ((-20 ≤ x0 ∧ x0 ≤ 20) ∧ (-20 ≤ x1 ∧ x1 ≤ 20) ∧ (-20 ≤ x2 ∧ x2 ≤ 20) ∧ (-20 ≤ x3 ∧ x3 ≤ 20) ∧ (-20 ≤ x4 ∧ x4 ≤ 20) ∧ (-20 ≤ x5 ∧ x5 ≤ 20) ∧ (-20 ≤ x6 ∧ x6 ≤ 20) ∧ (-20 ≤ x7 ∧ x7 ≤ 20) ∧ (-20 ≤ x8 ∧ x8 ≤ 20)) ∧ fX6_turns fu (ix hc) gr td fn gn (Int32.ofInt z) (Int32.ofInt y) (Int32.ofInt x0) (Int32.ofInt x1) (Int32.ofInt x2) (Int32.ofInt x3) (Int32.ofInt x4) (Int32.ofInt x5) (Int32.ofInt x6) (Int32.ofInt x7) (Int32.ofInt x8) = some (-100002, gr', td))) ∨ (∃ gr', ((-20 ≤ x0 ∧ x0 ≤ 20) ∧ (-20 ≤ x1 ∧ x1 ≤ 20) ∧ (-20 ≤ x2 ∧ x2 ≤ 20) ∧ (-20 ≤ x3 ∧ x3 ≤ 20) ∧ (-20 ≤ x4 ∧ x4 ≤ 20) ∧ (-20 ≤ x5 ∧ x5 ≤ 20) ∧ (-20 ≤ x6 ∧ x6 ≤ 20) ∧ (-20 ≤ x7 ∧ x7 ≤ 20) ∧ (-20 ≤ x8 ∧ x8 ≤ 20)) ∧ a9 gr' ((x0, x1, x2), (x3, x4, x5), (x6, x7, x8)) ∧ fX6_turns fu (ix hc) gr td fn gn (Int32.ofInt z) (Int32.ofInt y) (Int32.ofInt x0) (Int32.ofInt x1) (Int32.ofInt x2) (Int32.ofInt x3) (Int32.ofInt x4) (Int32.ofInt x5) (Int32.ofInt x6) (Int32.ofInt x7) (Int32.ofInt x8) = bd1 (fX6_areTable 9 gr' (0 : Int32) (3 : Int32) (6 : Int32)) (fun (r_9 : Int32) => if r_9 = 0 then (some ((0 : Int32), gr', td)) else (if okI (Int32.ofInt z) 12 then bd1 (fX4_turn fu 9 fn gr' td) (fun (turned_11 : Nat → Int32) => if okI (Int32.ofInt y) 12 then bd1 (fX4_areAlike fu turned_11 gn) (fun (r_13 : Int32) => if r_13 = 0 then some (0, gr', turned_11) else some (1, gr', turned_11)) else none) else none))) := by
  obtain ⟨f, hf⟩ : ∃ f, fu = f + 10 := ⟨fu - 10, by omega⟩
  have w0 : fX6_giveRow gr 0 (Int32.ofInt x0) (Int32.ofInt x1) (Int32.ofInt x2) = _ := x6_row gr (r := 0) (by decide) _ _ _
  have w1 := fun gr => x6_row gr (r := 1) (by decide) (Int32.ofInt x3) (Int32.ofInt x4) (Int32.ofInt x5)
  have w2 := fun gr => x6_row gr (r := 2) (by decide) (Int32.ofInt x6) (Int32.ofInt x7) (Int32.ofInt x8)
  rw [← ix_1] at w1
  rw [← ix_2] at w2
  unfold fX6_turns
  rw [x6_unk h1 hz, bd1_s]
  dsimp only [nm_eq]
  rw [if_pos g, if_pos z00, x6_unk h1 hy, bd1_s, if_pos gy, if_pos z00, w0, bd1_s, w1, bd1_s, w2, bd1_s]
  generalize hgr : upd (upd (upd (upd (upd (upd (upd (upd (upd gr (3 * 0) (Int32.ofInt x0)) (3 * 0 + 1) (Int32.ofInt x1)) (3 * 0 + 2) (Int32.ofInt x2)) (3 * 1) (Int32.ofInt x3)) (3 * 1 + 1) (Int32.ofInt x4)) (3 * 1 + 2) (Int32.ofInt x5)) (3 * 2) (Int32.ofInt x6)) (3 * 2 + 1) (Int32.ofInt x7)) (3 * 2 + 2) (Int32.ofInt x8) = gr'
  have h9 : a9 gr' ((x0, x1, x2), (x3, x4, x5), (x6, x7, x8)) := by
    subst hgr
    exact ⟨rfl, rfl, rfl, rfl, rfl, rfl, rfl, rfl, rfl⟩
  obtain ⟨k0, k1, k2, k3, k4, k5, k6, k7, k8⟩ := h9
  dsimp only at k0 k1 k2 k3 k4 k5 k6 k7 k8
  rw [hf]
  rw [t54_0 _ td r0 k0]
  by_cases g0 : -20 ≤ x0 ∧ x0 ≤ 20
  rotate_left
  · rw [if_neg g0]
    exact Or.inl ⟨gr', fun t => g0 t.1, rfl⟩
  rw [if_pos g0]
  rw [t54_s _ td (m := 1) (by decide) r1 k1]
  by_cases g1 : -20 ≤ x1 ∧ x1 ≤ 20
  rotate_left
  · rw [if_neg g1]
    exact Or.inl ⟨gr', fun t => g1 t.2.1, rfl⟩
  rw [if_pos g1]
  rw [t54_s _ td (m := 2) (by decide) r2 k2]
  by_cases g2 : -20 ≤ x2 ∧ x2 ≤ 20
  rotate_left
  · rw [if_neg g2]
    exact Or.inl ⟨gr', fun t => g2 t.2.2.1, rfl⟩
  rw [if_pos g2]
  rw [t54_s _ td (m := 3) (by decide) r3 k3]
  by_cases g3 : -20 ≤ x3 ∧ x3 ≤ 20
  rotate_left
  · rw [if_neg g3]
    exact Or.inl ⟨gr', fun t => g3 t.2.2.2.1, rfl⟩
  rw [if_pos g3]
  rw [t54_s _ td (m := 4) (by decide) r4 k4]
  by_cases g4 : -20 ≤ x4 ∧ x4 ≤ 20
  rotate_left
  · rw [if_neg g4]
    exact Or.inl ⟨gr', fun t => g4 t.2.2.2.2.1, rfl⟩
  rw [if_pos g4]
  rw [t54_s _ td (m := 5) (by decide) r5 k5]
  by_cases g5 : -20 ≤ x5 ∧ x5 ≤ 20
  rotate_left
  · rw [if_neg g5]
    exact Or.inl ⟨gr', fun t => g5 t.2.2.2.2.2.1, rfl⟩
  rw [if_pos g5]
  rw [t54_s _ td (m := 6) (by decide) r6 k6]
  by_cases g6 : -20 ≤ x6 ∧ x6 ≤ 20
  rotate_left
  · rw [if_neg g6]
    exact Or.inl ⟨gr', fun t => g6 t.2.2.2.2.2.2.1, rfl⟩
  rw [if_pos g6]
  rw [t54_s _ td (m := 7) (by decide) r7 k7]
  by_cases g7 : -20 ≤ x7 ∧ x7 ≤ 20
  rotate_left
  · rw [if_neg g7]
    exact Or.inl ⟨gr', fun t => g7 t.2.2.2.2.2.2.2.1, rfl⟩
  rw [if_pos g7]
  rw [t54_s _ td (m := 8) (by decide) r8 k8]
  by_cases g8 : -20 ≤ x8 ∧ x8 ≤ 20
  rotate_left
  · rw [if_neg g8]
    exact Or.inl ⟨gr', fun t => g8 t.2.2.2.2.2.2.2.2, rfl⟩
  rw [if_pos g8]
  rw [t54_9]
  exact Or.inr ⟨gr', ⟨g0, g1, g2, g3, g4, g5, g6, g7, g8⟩, ⟨k0, k1, k2, k3, k4, k5, k6, k7, k8⟩, rfl⟩
