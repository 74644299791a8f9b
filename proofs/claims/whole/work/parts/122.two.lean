/-! the class's Reducer: by two others at once -/
theorem if_cg {α : Type} {c d : Prop} {i1 : Decidable c} {i2 : Decidable d} {a b : α} (h : c ↔ d) : @ite α c i1 a b = @ite α d i2 a b := by
  by_cases hc : c
  · rw [if_pos hc, if_pos (h.mp hc)]
  · rw [if_neg hc, if_neg (fun g => hc (h.mpr g))]
theorem s3_twoc {u v x y z s t : Int} (hu : 0 < u ∧ u ≤ 400000) (hv : 0 < v ∧ v ≤ 400000) (hx : -800000 ≤ x ∧ x ≤ 800000) (hy : -800000 ≤ y ∧ y ≤ 800000) (hz : -800000 ≤ z ∧ z ≤ 800000) (hs : s = 1 ∨ s = -1) (ht : t = 1 ∨ t = -1) : ((0 : Int32) ≤ (((Int32.ofInt u + Int32.ofInt v) + Int32.ofInt s * Int32.ofInt x) + Int32.ofInt t * Int32.ofInt y) + (Int32.ofInt s * Int32.ofInt t) * Int32.ofInt z) ↔ 0 ≤ u + v + s * x + t * y + s * t * z := by
  have e0 : (0 : Int32) = Int32.ofInt 0 := rfl
  rw [e0, ← Int32.ofInt_mul, ← Int32.ofInt_mul, ← Int32.ofInt_mul, ← Int32.ofInt_mul, ← Int32.ofInt_add, ← Int32.ofInt_add, ← Int32.ofInt_add, ← Int32.ofInt_add]
  apply zi_le ⟨by omega, by omega⟩
  rcases hs with h | h <;> rcases ht with h' | h' <;> subst h <;> subst h' <;> constructor <;> omega
theorem s3_tw0mm {S : Nat → Int32} {q : F6} (hs : a6 S q) (hb : qb q) (k116 : Option (Int32 × (Nat → Int32) × (Nat → Int32))) (k92 : Int32 → Int32 → Int32 → Int32 → Int32 → Option (Int32 × (Nat → Int32) × (Nat → Int32))) (n : Nat) : fX3_shortenByTwo_L31 k116 1 2 0 S (-1) k92 (n + 1) (-1) = if 0 ≤ q.2.1 + q.2.2.1 - q.2.2.2.2.2 - q.2.2.2.2.1 + q.2.2.2.1 then fX3_shortenByTwo_L31 k116 1 2 0 S (-1) k92 n 1 else k92 0 1 2 (-1) (-1) := by
  have hq := qb_t hb
  obtain ⟨b1, b2, b3, b4, b5, b6⟩ := hb
  obtain ⟨h0, h1, h2, h3, h4, h5⟩ := hs
  have hi := s3_twoc (u := q.2.1) (v := q.2.2.1) (x := q.2.2.2.2.2) (y := q.2.2.2.2.1) (z := q.2.2.2.1) (s := -1) (t := -1) (by omega) (by omega) (by omega) (by omega) (by omega) (by omega) (by omega)
  have e9 : (0 ≤ q.2.1 + q.2.2.1 + (-1) * q.2.2.2.2.2 + (-1) * q.2.2.2.2.1 + (-1) * (-1) * q.2.2.2.1) ↔ 0 ≤ q.2.1 + q.2.2.1 - q.2.2.2.2.2 - q.2.2.2.2.1 + q.2.2.2.1 := by omega
  rw [e9, ← h1, ← h2, ← h5, ← h4, ← h3] at hi
  exact if_cg hi
theorem s3_tw0mp {S : Nat → Int32} {q : F6} (hs : a6 S q) (hb : qb q) (k116 : Option (Int32 × (Nat → Int32) × (Nat → Int32))) (k92 : Int32 → Int32 → Int32 → Int32 → Int32 → Option (Int32 × (Nat → Int32) × (Nat → Int32))) (n : Nat) : fX3_shortenByTwo_L31 k116 1 2 0 S (-1) k92 (n + 1) 1 = if 0 ≤ q.2.1 + q.2.2.1 - q.2.2.2.2.2 + q.2.2.2.2.1 - q.2.2.2.1 then fX3_shortenByTwo_L31 k116 1 2 0 S (-1) k92 n 3 else k92 0 1 2 (-1) 1 := by
  have hq := qb_t hb
  obtain ⟨b1, b2, b3, b4, b5, b6⟩ := hb
  obtain ⟨h0, h1, h2, h3, h4, h5⟩ := hs
  have hi := s3_twoc (u := q.2.1) (v := q.2.2.1) (x := q.2.2.2.2.2) (y := q.2.2.2.2.1) (z := q.2.2.2.1) (s := -1) (t := 1) (by omega) (by omega) (by omega) (by omega) (by omega) (by omega) (by omega)
  have e9 : (0 ≤ q.2.1 + q.2.2.1 + (-1) * q.2.2.2.2.2 + 1 * q.2.2.2.2.1 + (-1) * 1 * q.2.2.2.1) ↔ 0 ≤ q.2.1 + q.2.2.1 - q.2.2.2.2.2 + q.2.2.2.2.1 - q.2.2.2.1 := by omega
  rw [e9, ← h1, ← h2, ← h5, ← h4, ← h3] at hi
  exact if_cg hi
theorem s3_tw0pm {S : Nat → Int32} {q : F6} (hs : a6 S q) (hb : qb q) (k116 : Option (Int32 × (Nat → Int32) × (Nat → Int32))) (k92 : Int32 → Int32 → Int32 → Int32 → Int32 → Option (Int32 × (Nat → Int32) × (Nat → Int32))) (n : Nat) : fX3_shortenByTwo_L31 k116 1 2 0 S 1 k92 (n + 1) (-1) = if 0 ≤ q.2.1 + q.2.2.1 + q.2.2.2.2.2 - q.2.2.2.2.1 - q.2.2.2.1 then fX3_shortenByTwo_L31 k116 1 2 0 S 1 k92 n 1 else k92 0 1 2 1 (-1) := by
  have hq := qb_t hb
  obtain ⟨b1, b2, b3, b4, b5, b6⟩ := hb
  obtain ⟨h0, h1, h2, h3, h4, h5⟩ := hs
  have hi := s3_twoc (u := q.2.1) (v := q.2.2.1) (x := q.2.2.2.2.2) (y := q.2.2.2.2.1) (z := q.2.2.2.1) (s := 1) (t := -1) (by omega) (by omega) (by omega) (by omega) (by omega) (by omega) (by omega)
  have e9 : (0 ≤ q.2.1 + q.2.2.1 + 1 * q.2.2.2.2.2 + (-1) * q.2.2.2.2.1 + 1 * (-1) * q.2.2.2.1) ↔ 0 ≤ q.2.1 + q.2.2.1 + q.2.2.2.2.2 - q.2.2.2.2.1 - q.2.2.2.1 := by omega
  rw [e9, ← h1, ← h2, ← h5, ← h4, ← h3] at hi
  exact if_cg hi
theorem s3_tw0pp {S : Nat → Int32} {q : F6} (hs : a6 S q) (hb : qb q) (k116 : Option (Int32 × (Nat → Int32) × (Nat → Int32))) (k92 : Int32 → Int32 → Int32 → Int32 → Int32 → Option (Int32 × (Nat → Int32) × (Nat → Int32))) (n : Nat) : fX3_shortenByTwo_L31 k116 1 2 0 S 1 k92 (n + 1) 1 = if 0 ≤ q.2.1 + q.2.2.1 + q.2.2.2.2.2 + q.2.2.2.2.1 + q.2.2.2.1 then fX3_shortenByTwo_L31 k116 1 2 0 S 1 k92 n 3 else k92 0 1 2 1 1 := by
  have hq := qb_t hb
  obtain ⟨b1, b2, b3, b4, b5, b6⟩ := hb
  obtain ⟨h0, h1, h2, h3, h4, h5⟩ := hs
  have hi := s3_twoc (u := q.2.1) (v := q.2.2.1) (x := q.2.2.2.2.2) (y := q.2.2.2.2.1) (z := q.2.2.2.1) (s := 1) (t := 1) (by omega) (by omega) (by omega) (by omega) (by omega) (by omega) (by omega)
  have e9 : (0 ≤ q.2.1 + q.2.2.1 + 1 * q.2.2.2.2.2 + 1 * q.2.2.2.2.1 + 1 * 1 * q.2.2.2.1) ↔ 0 ≤ q.2.1 + q.2.2.1 + q.2.2.2.2.2 + q.2.2.2.2.1 + q.2.2.2.1 := by omega
  rw [e9, ← h1, ← h2, ← h5, ← h4, ← h3] at hi
  exact if_cg hi
theorem s3_tw1mm {S : Nat → Int32} {q : F6} (hs : a6 S q) (hb : qb q) (k116 : Option (Int32 × (Nat → Int32) × (Nat → Int32))) (k92 : Int32 → Int32 → Int32 → Int32 → Int32 → Option (Int32 × (Nat → Int32) × (Nat → Int32))) (n : Nat) : fX3_shortenByTwo_L31 k116 2 0 1 S (-1) k92 (n + 1) (-1) = if 0 ≤ q.2.2.1 + q.1 - q.2.2.2.1 - q.2.2.2.2.2 + q.2.2.2.2.1 then fX3_shortenByTwo_L31 k116 2 0 1 S (-1) k92 n 1 else k92 1 2 0 (-1) (-1) := by
  have hq := qb_t hb
  obtain ⟨b1, b2, b3, b4, b5, b6⟩ := hb
  obtain ⟨h0, h1, h2, h3, h4, h5⟩ := hs
  have hi := s3_twoc (u := q.2.2.1) (v := q.1) (x := q.2.2.2.1) (y := q.2.2.2.2.2) (z := q.2.2.2.2.1) (s := -1) (t := -1) (by omega) (by omega) (by omega) (by omega) (by omega) (by omega) (by omega)
  have e9 : (0 ≤ q.2.2.1 + q.1 + (-1) * q.2.2.2.1 + (-1) * q.2.2.2.2.2 + (-1) * (-1) * q.2.2.2.2.1) ↔ 0 ≤ q.2.2.1 + q.1 - q.2.2.2.1 - q.2.2.2.2.2 + q.2.2.2.2.1 := by omega
  rw [e9, ← h2, ← h0, ← h3, ← h5, ← h4] at hi
  exact if_cg hi
theorem s3_tw1mp {S : Nat → Int32} {q : F6} (hs : a6 S q) (hb : qb q) (k116 : Option (Int32 × (Nat → Int32) × (Nat → Int32))) (k92 : Int32 → Int32 → Int32 → Int32 → Int32 → Option (Int32 × (Nat → Int32) × (Nat → Int32))) (n : Nat) : fX3_shortenByTwo_L31 k116 2 0 1 S (-1) k92 (n + 1) 1 = if 0 ≤ q.2.2.1 + q.1 - q.2.2.2.1 + q.2.2.2.2.2 - q.2.2.2.2.1 then fX3_shortenByTwo_L31 k116 2 0 1 S (-1) k92 n 3 else k92 1 2 0 (-1) 1 := by
  have hq := qb_t hb
  obtain ⟨b1, b2, b3, b4, b5, b6⟩ := hb
  obtain ⟨h0, h1, h2, h3, h4, h5⟩ := hs
  have hi := s3_twoc (u := q.2.2.1) (v := q.1) (x := q.2.2.2.1) (y := q.2.2.2.2.2) (z := q.2.2.2.2.1) (s := -1) (t := 1) (by omega) (by omega) (by omega) (by omega) (by omega) (by omega) (by omega)
  have e9 : (0 ≤ q.2.2.1 + q.1 + (-1) * q.2.2.2.1 + 1 * q.2.2.2.2.2 + (-1) * 1 * q.2.2.2.2.1) ↔ 0 ≤ q.2.2.1 + q.1 - q.2.2.2.1 + q.2.2.2.2.2 - q.2.2.2.2.1 := by omega
  rw [e9, ← h2, ← h0, ← h3, ← h5, ← h4] at hi
  exact if_cg hi
theorem s3_tw1pm {S : Nat → Int32} {q : F6} (hs : a6 S q) (hb : qb q) (k116 : Option (Int32 × (Nat → Int32) × (Nat → Int32))) (k92 : Int32 → Int32 → Int32 → Int32 → Int32 → Option (Int32 × (Nat → Int32) × (Nat → Int32))) (n : Nat) : fX3_shortenByTwo_L31 k116 2 0 1 S 1 k92 (n + 1) (-1) = if 0 ≤ q.2.2.1 + q.1 + q.2.2.2.1 - q.2.2.2.2.2 - q.2.2.2.2.1 then fX3_shortenByTwo_L31 k116 2 0 1 S 1 k92 n 1 else k92 1 2 0 1 (-1) := by
  have hq := qb_t hb
  obtain ⟨b1, b2, b3, b4, b5, b6⟩ := hb
  obtain ⟨h0, h1, h2, h3, h4, h5⟩ := hs
  have hi := s3_twoc (u := q.2.2.1) (v := q.1) (x := q.2.2.2.1) (y := q.2.2.2.2.2) (z := q.2.2.2.2.1) (s := 1) (t := -1) (by omega) (by omega) (by omega) (by omega) (by omega) (by omega) (by omega)
  have e9 : (0 ≤ q.2.2.1 + q.1 + 1 * q.2.2.2.1 + (-1) * q.2.2.2.2.2 + 1 * (-1) * q.2.2.2.2.1) ↔ 0 ≤ q.2.2.1 + q.1 + q.2.2.2.1 - q.2.2.2.2.2 - q.2.2.2.2.1 := by omega
  rw [e9, ← h2, ← h0, ← h3, ← h5, ← h4] at hi
  exact if_cg hi
theorem s3_tw1pp {S : Nat → Int32} {q : F6} (hs : a6 S q) (hb : qb q) (k116 : Option (Int32 × (Nat → Int32) × (Nat → Int32))) (k92 : Int32 → Int32 → Int32 → Int32 → Int32 → Option (Int32 × (Nat → Int32) × (Nat → Int32))) (n : Nat) : fX3_shortenByTwo_L31 k116 2 0 1 S 1 k92 (n + 1) 1 = if 0 ≤ q.2.2.1 + q.1 + q.2.2.2.1 + q.2.2.2.2.2 + q.2.2.2.2.1 then fX3_shortenByTwo_L31 k116 2 0 1 S 1 k92 n 3 else k92 1 2 0 1 1 := by
  have hq := qb_t hb
  obtain ⟨b1, b2, b3, b4, b5, b6⟩ := hb
  obtain ⟨h0, h1, h2, h3, h4, h5⟩ := hs
  have hi := s3_twoc (u := q.2.2.1) (v := q.1) (x := q.2.2.2.1) (y := q.2.2.2.2.2) (z := q.2.2.2.2.1) (s := 1) (t := 1) (by omega) (by omega) (by omega) (by omega) (by omega) (by omega) (by omega)
  have e9 : (0 ≤ q.2.2.1 + q.1 + 1 * q.2.2.2.1 + 1 * q.2.2.2.2.2 + 1 * 1 * q.2.2.2.2.1) ↔ 0 ≤ q.2.2.1 + q.1 + q.2.2.2.1 + q.2.2.2.2.2 + q.2.2.2.2.1 := by omega
  rw [e9, ← h2, ← h0, ← h3, ← h5, ← h4] at hi
  exact if_cg hi
theorem s3_tw2mm {S : Nat → Int32} {q : F6} (hs : a6 S q) (hb : qb q) (k116 : Option (Int32 × (Nat → Int32) × (Nat → Int32))) (k92 : Int32 → Int32 → Int32 → Int32 → Int32 → Option (Int32 × (Nat → Int32) × (Nat → Int32))) (n : Nat) : fX3_shortenByTwo_L31 k116 0 1 2 S (-1) k92 (n + 1) (-1) = if 0 ≤ q.1 + q.2.1 - q.2.2.2.2.1 - q.2.2.2.1 + q.2.2.2.2.2 then fX3_shortenByTwo_L31 k116 0 1 2 S (-1) k92 n 1 else k92 2 0 1 (-1) (-1) := by
  have hq := qb_t hb
  obtain ⟨b1, b2, b3, b4, b5, b6⟩ := hb
  obtain ⟨h0, h1, h2, h3, h4, h5⟩ := hs
  have hi := s3_twoc (u := q.1) (v := q.2.1) (x := q.2.2.2.2.1) (y := q.2.2.2.1) (z := q.2.2.2.2.2) (s := -1) (t := -1) (by omega) (by omega) (by omega) (by omega) (by omega) (by omega) (by omega)
  have e9 : (0 ≤ q.1 + q.2.1 + (-1) * q.2.2.2.2.1 + (-1) * q.2.2.2.1 + (-1) * (-1) * q.2.2.2.2.2) ↔ 0 ≤ q.1 + q.2.1 - q.2.2.2.2.1 - q.2.2.2.1 + q.2.2.2.2.2 := by omega
  rw [e9, ← h0, ← h1, ← h4, ← h3, ← h5] at hi
  exact if_cg hi
theorem s3_tw2mp {S : Nat → Int32} {q : F6} (hs : a6 S q) (hb : qb q) (k116 : Option (Int32 × (Nat → Int32) × (Nat → Int32))) (k92 : Int32 → Int32 → Int32 → Int32 → Int32 → Option (Int32 × (Nat → Int32) × (Nat → Int32))) (n : Nat) : fX3_shortenByTwo_L31 k116 0 1 2 S (-1) k92 (n + 1) 1 = if 0 ≤ q.1 + q.2.1 - q.2.2.2.2.1 + q.2.2.2.1 - q.2.2.2.2.2 then fX3_shortenByTwo_L31 k116 0 1 2 S (-1) k92 n 3 else k92 2 0 1 (-1) 1 := by
  have hq := qb_t hb
  obtain ⟨b1, b2, b3, b4, b5, b6⟩ := hb
  obtain ⟨h0, h1, h2, h3, h4, h5⟩ := hs
  have hi := s3_twoc (u := q.1) (v := q.2.1) (x := q.2.2.2.2.1) (y := q.2.2.2.1) (z := q.2.2.2.2.2) (s := -1) (t := 1) (by omega) (by omega) (by omega) (by omega) (by omega) (by omega) (by omega)
  have e9 : (0 ≤ q.1 + q.2.1 + (-1) * q.2.2.2.2.1 + 1 * q.2.2.2.1 + (-1) * 1 * q.2.2.2.2.2) ↔ 0 ≤ q.1 + q.2.1 - q.2.2.2.2.1 + q.2.2.2.1 - q.2.2.2.2.2 := by omega
  rw [e9, ← h0, ← h1, ← h4, ← h3, ← h5] at hi
  exact if_cg hi
theorem s3_tw2pm {S : Nat → Int32} {q : F6} (hs : a6 S q) (hb : qb q) (k116 : Option (Int32 × (Nat → Int32) × (Nat → Int32))) (k92 : Int32 → Int32 → Int32 → Int32 → Int32 → Option (Int32 × (Nat → Int32) × (Nat → Int32))) (n : Nat) : fX3_shortenByTwo_L31 k116 0 1 2 S 1 k92 (n + 1) (-1) = if 0 ≤ q.1 + q.2.1 + q.2.2.2.2.1 - q.2.2.2.1 - q.2.2.2.2.2 then fX3_shortenByTwo_L31 k116 0 1 2 S 1 k92 n 1 else k92 2 0 1 1 (-1) := by
  have hq := qb_t hb
  obtain ⟨b1, b2, b3, b4, b5, b6⟩ := hb
  obtain ⟨h0, h1, h2, h3, h4, h5⟩ := hs
  have hi := s3_twoc (u := q.1) (v := q.2.1) (x := q.2.2.2.2.1) (y := q.2.2.2.1) (z := q.2.2.2.2.2) (s := 1) (t := -1) (by omega) (by omega) (by omega) (by omega) (by omega) (by omega) (by omega)
  have e9 : (0 ≤ q.1 + q.2.1 + 1 * q.2.2.2.2.1 + (-1) * q.2.2.2.1 + 1 * (-1) * q.2.2.2.2.2) ↔ 0 ≤ q.1 + q.2.1 + q.2.2.2.2.1 - q.2.2.2.1 - q.2.2.2.2.2 := by omega
  rw [e9, ← h0, ← h1, ← h4, ← h3, ← h5] at hi
  exact if_cg hi
theorem s3_tw2pp {S : Nat → Int32} {q : F6} (hs : a6 S q) (hb : qb q) (k116 : Option (Int32 × (Nat → Int32) × (Nat → Int32))) (k92 : Int32 → Int32 → Int32 → Int32 → Int32 → Option (Int32 × (Nat → Int32) × (Nat → Int32))) (n : Nat) : fX3_shortenByTwo_L31 k116 0 1 2 S 1 k92 (n + 1) 1 = if 0 ≤ q.1 + q.2.1 + q.2.2.2.2.1 + q.2.2.2.1 + q.2.2.2.2.2 then fX3_shortenByTwo_L31 k116 0 1 2 S 1 k92 n 3 else k92 2 0 1 1 1 := by
  have hq := qb_t hb
  obtain ⟨b1, b2, b3, b4, b5, b6⟩ := hb
  obtain ⟨h0, h1, h2, h3, h4, h5⟩ := hs
  have hi := s3_twoc (u := q.1) (v := q.2.1) (x := q.2.2.2.2.1) (y := q.2.2.2.1) (z := q.2.2.2.2.2) (s := 1) (t := 1) (by omega) (by omega) (by omega) (by omega) (by omega) (by omega) (by omega)
  have e9 : (0 ≤ q.1 + q.2.1 + 1 * q.2.2.2.2.1 + 1 * q.2.2.2.1 + 1 * 1 * q.2.2.2.2.2) ↔ 0 ≤ q.1 + q.2.1 + q.2.2.2.2.1 + q.2.2.2.1 + q.2.2.2.2.2 := by omega
  rw [e9, ← h0, ← h1, ← h4, ← h3, ← h5] at hi
  exact if_cg hi
theorem s3_tend (S : Nat → Int32) (k116 : Option (Int32 × (Nat → Int32) × (Nat → Int32))) (k92 : Int32 → Int32 → Int32 → Int32 → Int32 → Option (Int32 × (Nat → Int32) × (Nat → Int32))) (n : Nat) (j k i s : Int32) : fX3_shortenByTwo_L31 k116 j k i S s k92 (n + 1) 3 = k116 := rfl
theorem s3_t22 (S : Nat → Int32) (k122 : Option (Int32 × (Nat → Int32) × (Nat → Int32))) (k92 : Int32 → Int32 → Int32 → Int32 → Int32 → Option (Int32 × (Nat → Int32) × (Nat → Int32))) (fu n : Nat) (j k i : Int32) : fX3_shortenByTwo_L22 k122 j k i S k92 fu (n + 1) (-1) = fX3_shortenByTwo_L31 (fX3_shortenByTwo_L22 k122 j k i S k92 fu n 1) j k i S (-1) k92 fu (-1) ∧ fX3_shortenByTwo_L22 k122 j k i S k92 fu (n + 1) 1 = fX3_shortenByTwo_L31 (fX3_shortenByTwo_L22 k122 j k i S k92 fu n 3) j k i S 1 k92 fu (-1) ∧ fX3_shortenByTwo_L22 k122 j k i S k92 fu (n + 1) 3 = k122 := ⟨rfl, rfl, rfl⟩
theorem s3_t2 (S r : Nat → Int32) (k92 : Int32 → Int32 → Int32 → Int32 → Int32 → Option (Int32 × (Nat → Int32) × (Nat → Int32))) (fu n : Nat) : fX3_shortenByTwo_L2 S r k92 fu (n + 1) 0 = fX3_shortenByTwo_L22 (fX3_shortenByTwo_L2 S r k92 fu n 1) 1 2 0 S k92 fu fu (-1) ∧ fX3_shortenByTwo_L2 S r k92 fu (n + 1) 1 = fX3_shortenByTwo_L22 (fX3_shortenByTwo_L2 S r k92 fu n 2) 2 0 1 S k92 fu fu (-1) ∧ fX3_shortenByTwo_L2 S r k92 fu (n + 1) 2 = fX3_shortenByTwo_L22 (fX3_shortenByTwo_L2 S r k92 fu n 3) 0 1 2 S k92 fu fu (-1) ∧ fX3_shortenByTwo_L2 S r k92 fu (n + 1) 3 = some (0, S, r) := ⟨rfl, rfl, rfl, rfl⟩
def fX3_two9 (fu : Nat) (s r : Nat → Int32) (i j k x y : Int32) : Option (Int32 × (Nat → Int32) × (Nat → Int32)) := bd2 (fX3_shift fu s r i j x) (fun s' r' => bd2 (fX3_shift fu s' r' i k y) (fun s2 r2 => some ((1 : Int32), s2, r2)))
theorem s3_byTwo0 (S r : Nat → Int32) (fu : Nat) : fX3_shortenByTwo fu S r = fX3_shortenByTwo_L2 S r (fun i j k x y => fX3_two9 fu S r i j k x y) fu fu 0 := rfl
theorem s3_byTwo {S : Nat → Int32} {q : F6} (hs : a6 S q) (hb : qb q) (r : Nat → Int32) (n : Nat) : fX3_shortenByTwo (n + 4) S r = if 0 ≤ q.2.1 + q.2.2.1 - q.2.2.2.2.2 - q.2.2.2.2.1 + q.2.2.2.1 then if 0 ≤ q.2.1 + q.2.2.1 - q.2.2.2.2.2 + q.2.2.2.2.1 - q.2.2.2.1 then if 0 ≤ q.2.1 + q.2.2.1 + q.2.2.2.2.2 - q.2.2.2.2.1 - q.2.2.2.1 then if 0 ≤ q.2.1 + q.2.2.1 + q.2.2.2.2.2 + q.2.2.2.2.1 + q.2.2.2.1 then if 0 ≤ q.2.2.1 + q.1 - q.2.2.2.1 - q.2.2.2.2.2 + q.2.2.2.2.1 then if 0 ≤ q.2.2.1 + q.1 - q.2.2.2.1 + q.2.2.2.2.2 - q.2.2.2.2.1 then if 0 ≤ q.2.2.1 + q.1 + q.2.2.2.1 - q.2.2.2.2.2 - q.2.2.2.2.1 then if 0 ≤ q.2.2.1 + q.1 + q.2.2.2.1 + q.2.2.2.2.2 + q.2.2.2.2.1 then if 0 ≤ q.1 + q.2.1 - q.2.2.2.2.1 - q.2.2.2.1 + q.2.2.2.2.2 then if 0 ≤ q.1 + q.2.1 - q.2.2.2.2.1 + q.2.2.2.1 - q.2.2.2.2.2 then if 0 ≤ q.1 + q.2.1 + q.2.2.2.2.1 - q.2.2.2.1 - q.2.2.2.2.2 then if 0 ≤ q.1 + q.2.1 + q.2.2.2.2.1 + q.2.2.2.1 + q.2.2.2.2.2 then some (0, S, r) else fX3_two9 (n + 4) S r 2 0 1 1 1 else fX3_two9 (n + 4) S r 2 0 1 1 (-1) else fX3_two9 (n + 4) S r 2 0 1 (-1) 1 else fX3_two9 (n + 4) S r 2 0 1 (-1) (-1) else fX3_two9 (n + 4) S r 1 2 0 1 1 else fX3_two9 (n + 4) S r 1 2 0 1 (-1) else fX3_two9 (n + 4) S r 1 2 0 (-1) 1 else fX3_two9 (n + 4) S r 1 2 0 (-1) (-1) else fX3_two9 (n + 4) S r 0 1 2 1 1 else fX3_two9 (n + 4) S r 0 1 2 1 (-1) else fX3_two9 (n + 4) S r 0 1 2 (-1) 1 else fX3_two9 (n + 4) S r 0 1 2 (-1) (-1) := by
  rw [s3_byTwo0, (s3_t2 _ _ _ _ _).1, (s3_t2 _ _ _ _ _).2.1, (s3_t2 _ _ _ _ _).2.2.1, (s3_t2 _ _ _ _ _).2.2.2, (s3_t22 _ _ _ _ _ _ _ _).1, s3_tw0mm hs hb, s3_tw0mp hs hb, s3_tend, (s3_t22 _ _ _ _ _ _ _ _).2.1, s3_tw0pm hs hb, s3_tw0pp hs hb, s3_tend, (s3_t22 _ _ _ _ _ _ _ _).2.2, (s3_t22 _ _ _ _ _ _ _ _).1, s3_tw1mm hs hb, s3_tw1mp hs hb, s3_tend, (s3_t22 _ _ _ _ _ _ _ _).2.1, s3_tw1pm hs hb, s3_tw1pp hs hb, s3_tend, (s3_t22 _ _ _ _ _ _ _ _).2.2, (s3_t22 _ _ _ _ _ _ _ _).1, s3_tw2mm hs hb, s3_tw2mp hs hb, s3_tend, (s3_t22 _ _ _ _ _ _ _ _).2.1, s3_tw2pm hs hb, s3_tw2pp hs hb, s3_tend, (s3_t22 _ _ _ _ _ _ _ _).2.2]
