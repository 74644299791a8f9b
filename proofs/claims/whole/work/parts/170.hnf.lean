/-! the reference's settle by whole numbers -/
def tup4 (a b c d : V3) : Nat → V3 := fun r => if r = 0 then a else if r = 1 then b else if r = 2 then c else d
def am (m : Nat → Int64) (R : Nat → V3) : Prop := ∀ r, r < 4 → avl m (3 * r) (R r)
def col (c : Nat) (v : V3) : Int := if c = 0 then v.1 else if c = 1 then v.2.1 else v.2.2
def vsub (v w : V3) (t : Int) : V3 := (v.1 - t * w.1, v.2.1 - t * w.2.1, v.2.2 - t * w.2.2)
def ab (x : Int) : Int := if 0 ≤ x then x else -x
def bo (c : Nat) (R : Nat → V3) (acc : Int) (r : Nat) : Int := if 0 < ab (col c (R r)) ∧ (acc < 0 ∨ ab (col c (R r)) < ab (col c (R acc.toNat))) then (r : Int) else acc
def swp (b c : Nat) (R : Nat → V3) : Nat → V3 := fun r => if r = c then R b else if r = b then R c else R r
def elr (c r : Nat) (R : Nat → V3) : Nat → V3 := fun i => if i = r then vsub (R r) (R c) ((col c (R r)).tdiv (col c (R c))) else R i
def smv (v : V3) : Bool := decide (ab v.1 ≤ 1000000) && decide (ab v.2.1 ≤ 1000000) && decide (ab v.2.2 ≤ 1000000)
def smR (R : Nat → V3) : Bool := smv (R 0) && smv (R 1) && smv (R 2) && smv (R 3)
theorem am_col {m : Nat → Int64} {R : Nat → V3} (h : am m R) {r c : Nat} (hr : r < 4) (hc : c < 3) : m (3 * r + c) = Int64.ofInt (col c (R r)) := by
  obtain ⟨h0, h1, h2⟩ := h r hr
  have : c = 0 ∨ c = 1 ∨ c = 2 := by omega
  rcases this with e | e | e <;> subst e
  · exact h0
  · exact h1
  · exact h2
theorem l7_size {x : Int} (hx : rL x) (hx' : rL (-x)) : fX7_size (Int64.ofInt x) = some (Int64.ofInt (ab x)) := by
  unfold fX7_size ab
  simp only [nm_eq]
  have h : (0 : Int64) ≤ Int64.ofInt x ↔ 0 ≤ x := by rw [zl_0, zl_le ⟨by omega, by omega⟩ hx]
  by_cases g : 0 ≤ x
  · rw [if_pos (h.mpr g), if_pos g]
  · rw [if_neg (fun t => g (h.mp t)), if_neg g, ← Int64.ofInt_neg]
theorem ab_le {x B : Int} (h : ab x ≤ B) : -B ≤ x ∧ x ≤ B := by
  unfold ab at h
  by_cases g : 0 ≤ x
  · rw [if_pos g] at h; omega
  · rw [if_neg g] at h; omega
theorem smv_b {v : V3} (h : smv v = true) (c : Nat) : -1000000 ≤ col c v ∧ col c v ≤ 1000000 := by
  simp only [smv, Bool.and_eq_true, decide_eq_true_eq] at h
  obtain ⟨⟨h1, h2⟩, h3⟩ := h
  have h1 := ab_le h1
  have h2 := ab_le h2
  have h3 := ab_le h3
  unfold col
  split
  · exact h1
  · split
    · exact h2
    · exact h3
theorem vl_s (f : Nat → Int64) (k : Nat) (x : Int64) : vp_updL f k x k = x := if_pos rfl
theorem vl_n (f : Nat → Int64) {k j : Nat} (x : Int64) (h : j ≠ k) : vp_updL f k x j = f j := if_neg h
theorem smR_b {R : Nat → V3} (h : smR R = true) {r : Nat} (hr : r < 4) (c : Nat) : -1000000 ≤ col c (R r) ∧ col c (R r) ≤ 1000000 := by
  simp only [smR, Bool.and_eq_true] at h
  obtain ⟨⟨⟨h0, h1⟩, h2⟩, h3⟩ := h
  have : r = 0 ∨ r = 1 ∨ r = 2 ∨ r = 3 := by omega
  rcases this with e | e | e | e <;> subst e
  · exact smv_b h0 c
  · exact smv_b h1 c
  · exact smv_b h2 c
  · exact smv_b h3 c
theorem ab_b {x : Int} (h : -1000000 ≤ x ∧ x ≤ 1000000) : 0 ≤ ab x ∧ ab x ≤ 1000000 := by unfold ab; split <;> omega
/-- the best row -/
theorem st_18 {m : Nat → Int64} {R : Nat → V3} (hm : am m R) (hs : smR R = true) {c : Nat} (hc : c < 3) (k83 : Int32 → Option (Nat → Int64)) : ∀ (k n r : Nat) (acc : Int), r + k = 4 → k + 1 ≤ n → (acc = -1 ∨ (0 ≤ acc ∧ acc < 4)) → ∃ a' : Int, fX7_settle_L18 k83 (ix c) m n (Int32.ofInt acc) (ix r) = k83 (Int32.ofInt a') ∧ a' = (List.range' r k).foldl (bo c R) acc ∧ (a' = -1 ∨ (0 ≤ a' ∧ a' < 4)) := by
  have e4 : (4 : Int32) = ix 4 := rfl
  intro k
  induction k with
  | zero =>
    intro n r acc e1 e2 ha
    obtain ⟨n, rfl⟩ : ∃ j, n = j + 1 := ⟨n - 1, by omega⟩
    rw [fX7_settle_L18, if_pos (by rw [e4, ix_le (by omega) (by omega)]; omega)]
    exact ⟨acc, rfl, rfl, ha⟩
  | succ k ih =>
    intro n r acc e1 e2 ha
    obtain ⟨n, rfl⟩ : ∃ j, n = j + 1 := ⟨n - 1, by omega⟩
    have hb := smR_b hs (r := r) (by omega) c
    have hab := ab_b hb
    have hsz := l7_size (x := col c (R r)) ⟨by omega, by omega⟩ ⟨by omega, by omega⟩
    rw [List.range'_succ, List.foldl_cons]
    have hbo : bo c R acc r = -1 ∨ (0 ≤ bo c R acc r ∧ bo c R acc r < 4) := by unfold bo; split <;> omega
    have main : fX7_settle_L18 k83 (ix c) m (n + 1) (Int32.ofInt acc) (ix r) = fX7_settle_L18 k83 (ix c) m n (Int32.ofInt (bo c R acc r)) (ix (r + 1)) := by
      rw [fX7_settle_L18, if_neg (by rw [e4, ix_le (by omega) (by omega)]; omega)]
      simp only [nm_eq, ix_1, ix_3, ix_mul, ix_add]
      rw [if_pos (ix_ok (by omega) (by decide)), ix_nat (by omega), am_col hm (by omega) hc, hsz]
      simp only [bd1]
      have hle : Int64.ofInt (ab (col c (R r))) ≤ 0 ↔ ab (col c (R r)) ≤ 0 := by rw [zl_0, zl_le ⟨by omega, by omega⟩ ⟨by omega, by omega⟩]
      have er : Int32.ofInt (r : Int) = ix r := rfl
      by_cases g0 : ab (col c (R r)) ≤ 0
      · rw [if_pos (hle.mpr g0)]
        unfold bo
        rw [if_neg (by omega)]
      · rw [if_neg (fun t => g0 (hle.mp t))]
        have e0 : (0 : Int32) = Int32.ofInt 0 := rfl
        rcases ha with ha | ha
        · subst ha
          rw [if_pos (by decide)]
          unfold bo
          rw [if_pos ⟨by omega, Or.inl (by decide)⟩]
          rfl
        · obtain ⟨a, rfl⟩ : ∃ a : Nat, acc = (a : Int) := ⟨acc.toNat, by omega⟩
          have hb2 := smR_b hs (r := a) (by omega) c
          have hab2 := ab_b hb2
          have hsz2 := l7_size (x := col c (R a)) ⟨by omega, by omega⟩ ⟨by omega, by omega⟩
          have ea : Int32.ofInt (a : Int) = ix a := rfl
          rw [ea, if_neg (by rw [ix_0, ix_lt (by omega) (by omega)]; omega), ix_mul, ix_add, if_pos (ix_ok (by omega) (by decide)), ix_nat (by omega), am_col hm (by omega) hc, hsz2]
          simp only
          have hle2 : Int64.ofInt (ab (col c (R a))) ≤ Int64.ofInt (ab (col c (R r))) ↔ ab (col c (R a)) ≤ ab (col c (R r)) := zl_le ⟨by omega, by omega⟩ ⟨by omega, by omega⟩
          unfold bo
          have et : ((a : Int)).toNat = a := by omega
          rw [et]
          by_cases g1 : ab (col c (R a)) ≤ ab (col c (R r))
          · rw [if_pos (hle2.mpr g1), if_neg (by omega)]
            rfl
          · rw [if_neg (fun t => g1 (hle2.mp t)), if_pos ⟨by omega, Or.inr (by omega)⟩]
            rfl
    rw [main]
    exact ih n (r + 1) _ (by omega) (by omega) hbo
/-- two rows change places -/
theorem st_86 {m : Nat → Int64} {R : Nat → V3} (hm : am m R) {b c : Nat} (hb : b < 4) (hc : c < 3) (k146 : (Nat → Int64) → Option (Nat → Int64)) (n : Nat) : ∃ m', fX7_settle_L86 k146 (ix b) (ix c) (n + 4) 0 m = k146 m' ∧ am m' (swp b c R) := by
  have st : ∀ (j n : Nat) (m : Nat → Int64), j < 3 → fX7_settle_L86 k146 (ix b) (ix c) (n + 1) (ix j) m = fX7_settle_L86 k146 (ix b) (ix c) n (ix (j + 1)) (vp_updL (vp_updL m (3 * b + j) (m (3 * c + j))) (3 * c + j) (m (3 * b + j))) := by
    intro j n m hj
    rw [fX7_settle_L86, if_neg (by rw [ix_3, ix_le (by omega) (by omega)]; omega)]
    simp only [nm_eq, ix_1, ix_3, ix_mul, ix_add]
    rw [if_pos (ix_ok (by omega) (by decide)), if_pos (ix_ok (by omega) (by decide)), if_pos (ix_ok (by omega) (by decide)), if_pos (ix_ok (by omega) (by decide)), ix_nat (a := 3 * b + j) (by omega), ix_nat (a := 3 * c + j) (by omega)]
  rw [ix_0, st 0 (n + 3) m (by omega), st 1 (n + 2) _ (by omega), st 2 (n + 1) _ (by omega), fX7_settle_L86, if_pos (by decide)]
  refine ⟨_, rfl, fun r hr => ?_⟩
  have hR := hm r hr
  have hB := hm b hb
  have hC := hm c (by omega)
  obtain ⟨r0, r1, r2⟩ := hR
  obtain ⟨b0, b1, b2⟩ := hB
  obtain ⟨c0, c1, c2⟩ := hC
  have cs : r = c ∨ (r ≠ c ∧ r = b) ∨ (r ≠ c ∧ r ≠ b) := by omega
  rcases cs with e | ⟨e1, e2⟩ | ⟨e1, e2⟩
  · subst e
    have es : swp b r R r = R b := by unfold swp; rw [if_pos rfl]
    rw [es]
    by_cases eb : b = r
    · subst eb
      refine ⟨?_, ?_, ?_⟩ <;> simp [vp_updL, b0, b1, b2]
    · have n1 : 3 * b ≠ 3 * r := by omega
      refine ⟨?_, ?_, ?_⟩ <;> simp only [Nat.add_zero] <;> repeat (first | rw [vl_s] | rw [vl_n _ _ (by omega)])
      · exact b0
      · exact b1
      · exact b2
  · subst e2
    have es : swp r c R r = R c := by unfold swp; rw [if_neg e1, if_pos rfl]
    rw [es]
    refine ⟨?_, ?_, ?_⟩ <;> simp only [Nat.add_zero] <;> repeat (first | rw [vl_s] | rw [vl_n _ _ (by omega)])
    · exact c0
    · exact c1
    · exact c2
  · have es : swp b c R r = R r := by unfold swp; rw [if_neg e1, if_neg e2]
    rw [es]
    refine ⟨?_, ?_, ?_⟩ <;> simp only [Nat.add_zero] <;> repeat (first | rw [vl_s] | rw [vl_n _ _ (by omega)])
    · exact r0
    · exact r1
    · exact r2
/-- times of the row c away from row r -/
theorem st_186 {m : Nat → Int64} {R : Nat → V3} (hm : am m R) {r c : Nat} (hr : r < 4) (hc : c < 3) (hne : r ≠ c) (t : Int) (k227 : (Nat → Int64) → Option (Nat → Int64)) (n : Nat) : ∃ m', fX7_settle_L186 k227 (ix r) (ix c) (Int64.ofInt t) (n + 4) 0 m = k227 m' ∧ am m' (fun i => if i = r then vsub (R r) (R c) t else R i) := by
  have st : ∀ (j n : Nat) (m : Nat → Int64), j < 3 → fX7_settle_L186 k227 (ix r) (ix c) (Int64.ofInt t) (n + 1) (ix j) m = fX7_settle_L186 k227 (ix r) (ix c) (Int64.ofInt t) n (ix (j + 1)) (vp_updL m (3 * r + j) (m (3 * r + j) - Int64.ofInt t * m (3 * c + j))) := by
    intro j n m hj
    rw [fX7_settle_L186, if_neg (by rw [ix_3, ix_le (by omega) (by omega)]; omega)]
    simp only [nm_eq, ix_1, ix_3, ix_mul, ix_add]
    rw [if_pos (ix_ok (by omega) (by decide)), if_pos (ix_ok (by omega) (by decide)), if_pos (ix_ok (by omega) (by decide)), ix_nat (a := 3 * r + j) (by omega), ix_nat (a := 3 * c + j) (by omega)]
  rw [ix_0, st 0 (n + 3) m (by omega), st 1 (n + 2) _ (by omega), st 2 (n + 1) _ (by omega), fX7_settle_L186, if_pos (by decide)]
  refine ⟨_, rfl, fun i hi => ?_⟩
  obtain ⟨i0, i1, i2⟩ := hm i hi
  obtain ⟨c0, c1, c2⟩ := hm c (by omega)
  by_cases e : i = r
  · subst e
    have es : (fun j => if j = i then vsub (R i) (R c) t else R j) i = vsub (R i) (R c) t := if_pos rfl
    rw [es]
    refine ⟨?_, ?_, ?_⟩ <;> simp only [Nat.add_zero] <;> repeat (first | rw [vl_s] | rw [vl_n _ _ (by omega)])
    · rw [i0, c0, ← Int64.ofInt_mul, ← Int64.ofInt_sub]; rfl
    · rw [i1, c1, ← Int64.ofInt_mul, ← Int64.ofInt_sub]; rfl
    · rw [i2, c2, ← Int64.ofInt_mul, ← Int64.ofInt_sub]; rfl
  · have es : (fun j => if j = r then vsub (R r) (R c) t else R j) i = R i := if_neg e
    rw [es]
    refine ⟨?_, ?_, ?_⟩ <;> simp only [Nat.add_zero] <;> repeat (first | rw [vl_s] | rw [vl_n _ _ (by omega)])
    · exact i0
    · exact i1
    · exact i2
