/-! the class's Reducer: no row gets shorter by one or by two others, or the sum of values gets less -/
def gt_ (u t : Int) : Int := (u - t) / (2 * u)
def gg_ (u t : Int) : Int := gt_ u t * (t + gt_ u t * u)
theorem gt_spec {u : Int} (t : Int) (hu : 0 < u) : 2 * u * gt_ u t ≤ u - t ∧ u - t < 2 * u * gt_ u t + 2 * u := by
  unfold gt_
  have h5 := Int.emod_nonneg (u - t) (by omega : 2 * u ≠ 0)
  have h6 := Int.emod_lt_of_pos (u - t) (by omega : 0 < 2 * u)
  have h7 := Int.emod_add_mul_ediv (u - t) (2 * u)
  omega
theorem gg_four (u t : Int) : 4 * u * gg_ u t = (2 * u * gt_ u t + t) * (2 * u * gt_ u t + t) - t * t := by
  unfold gg_
  generalize gt_ u t = k
  grind
theorem gg_rng {p u t : Int} (hu : 0 < u) (ht : t * t < 4 * p * u) : -p ≤ gg_ u t ∧ gg_ u t ≤ u := by
  obtain ⟨h1, h2⟩ := gt_spec t hu
  have h3 := gg_four u t
  have h4 := qf_sq (2 * u * gt_ u t + t)
  have h5 : 0 ≤ (u - (2 * u * gt_ u t + t)) * (u + (2 * u * gt_ u t + t)) := Int.mul_nonneg (by omega) (by omega)
  have h6 : (u - (2 * u * gt_ u t + t)) * (u + (2 * u * gt_ u t + t)) = u * u - (2 * u * gt_ u t + t) * (2 * u * gt_ u t + t) := by grind
  have h7 := qf_sq t
  have h8 := Int.mul_pos hu hu
  constructor
  · have : 0 ≤ gg_ u t + p := by
      refine qf_nn_of (k := 4 * u) (by omega) ?_
      have : 4 * u * (gg_ u t + p) = 4 * u * gg_ u t + 4 * p * u := by grind
      omega
    omega
  · have : 0 ≤ u - gg_ u t := by
      refine qf_nn_of (k := 4 * u) (by omega) ?_
      have : 4 * u * (u - gg_ u t) = 4 * (u * u) - 4 * u * gg_ u t := by grind
      omega
    omega
theorem gg_nn {u t : Int} (hu : 0 < u) (h : 0 ≤ gg_ u t) : -u ≤ t ∧ t ≤ u := by
  obtain ⟨h1, h2⟩ := gt_spec t hu
  have h3 := gg_four u t
  have h0 : 0 ≤ 4 * u * gg_ u t := Int.mul_nonneg (by omega) h
  have h5 : 0 ≤ (u - (2 * u * gt_ u t + t)) * (u + (2 * u * gt_ u t + t)) := Int.mul_nonneg (by omega) (by omega)
  have h6 : (u - (2 * u * gt_ u t + t)) * (u + (2 * u * gt_ u t + t)) = u * u - (2 * u * gt_ u t + t) * (2 * u * gt_ u t + t) := by grind
  constructor
  · rcases qf_lg t (-u) with g | g
    · have : 0 < (-t - u) * (-t + u) := Int.mul_pos (by omega) (by omega)
      have : (-t - u) * (-t + u) = t * t - u * u := by grind
      omega
    · exact g
  · rcases qf_lg u t with g | g
    · have : 0 < (t - u) * (t + u) := Int.mul_pos (by omega) (by omega)
      have : (t - u) * (t + u) = t * t - u * u := by grind
      omega
    · exact g
/-- how large the numbers are -/
def qb (q : F6) : Prop := (0 < q.1 ∧ q.1 ≤ 400000) ∧ (0 < q.2.1 ∧ q.2.1 ≤ 400000) ∧ (0 < q.2.2.1 ∧ q.2.2.1 ≤ 400000) ∧ q.2.2.2.1 * q.2.2.2.1 < 4 * q.2.1 * q.2.2.1 ∧ q.2.2.2.2.1 * q.2.2.2.2.1 < 4 * q.1 * q.2.2.1 ∧ q.2.2.2.2.2 * q.2.2.2.2.2 < 4 * q.1 * q.2.1
theorem qb_sq {t u v : Int} (h : t * t < 4 * u * v) (hu : 0 < u) (hu' : u ≤ 400000) (hv : 0 < v) (hv' : v ≤ 400000) : -800000 ≤ t ∧ t ≤ 800000 := by
  have h1 : 0 ≤ (400000 - u) * v := Int.mul_nonneg (by omega) (by omega)
  have h2 : (400000 - u) * v = 400000 * v - u * v := by grind
  have h3 : 4 * u * v = 4 * (u * v) := by grind
  constructor
  · rcases qf_lg t (-800000) with g | g
    · have : 0 < (-t - 800000) * (-t + 800000) := Int.mul_pos (by omega) (by omega)
      have : (-t - 800000) * (-t + 800000) = t * t - 640000000000 := by grind
      omega
    · exact g
  · rcases qf_lg 800000 t with g | g
    · have : 0 < (t - 800000) * (t + 800000) := Int.mul_pos (by omega) (by omega)
      have : (t - 800000) * (t + 800000) = t * t - 640000000000 := by grind
      omega
    · exact g
theorem qb_t {q : F6} (h : qb q) : (-800000 ≤ q.2.2.2.1 ∧ q.2.2.2.1 ≤ 800000) ∧ (-800000 ≤ q.2.2.2.2.1 ∧ q.2.2.2.2.1 ≤ 800000) ∧ (-800000 ≤ q.2.2.2.2.2 ∧ q.2.2.2.2.2 ≤ 800000) := by
  obtain ⟨h1, h2, h3, h4, h5, h6⟩ := h
  exact ⟨qb_sq h4 h2.1 h2.2 h3.1 h3.2, qb_sq h5 h1.1 h1.2 h3.1 h3.2, qb_sq h6 h1.1 h1.2 h2.1 h2.2⟩
theorem s3_one {p u t : Int} (hu : 0 < u) (hu' : u ≤ 400000) (hp : p ≤ 400000) (ht : t * t < 4 * p * u) (ht' : -800000 ≤ t ∧ t ≤ 800000) {R : Type} (k : Int32 → Option R) (z : Option R) : (if Int32.ofInt u ≤ 0 then z else bd1 (fJ9_floorDiv_7cf53 (Int32.ofInt u - Int32.ofInt t) ((2 : Int32) * Int32.ofInt u)) (fun r => if 0 ≤ r * (Int32.ofInt t + r * Int32.ofInt u) then z else k r)) = if 0 ≤ gg_ u t then z else k (Int32.ofInt (gt_ u t)) := by
  have e0 : (0 : Int32) = Int32.ofInt 0 := rfl
  have e2 : (2 : Int32) = Int32.ofInt 2 := rfl
  rw [if_neg (by rw [e0, zi_le ⟨by omega, by omega⟩ ⟨by omega, by omega⟩]; omega)]
  rw [e2, ← Int32.ofInt_sub, ← Int32.ofInt_mul, zi_floorDiv ⟨by omega, by omega⟩ ⟨by omega, by omega⟩ (by omega)]
  show (if 0 ≤ Int32.ofInt (gt_ u t) * (Int32.ofInt t + Int32.ofInt (gt_ u t) * Int32.ofInt u) then z else k (Int32.ofInt (gt_ u t))) = _
  rw [← Int32.ofInt_mul, ← Int32.ofInt_add, ← Int32.ofInt_mul]
  have h9 := gg_rng hu ht
  have e3 : gt_ u t * (t + gt_ u t * u) = gg_ u t := rfl
  rw [e3, e0]
  have : (Int32.ofInt 0 ≤ Int32.ofInt (gg_ u t)) ↔ 0 ≤ gg_ u t := zi_le ⟨by omega, by omega⟩ ⟨by omega, by omega⟩
  simp only [this]
theorem s3_st01 {s : Nat → Int32} {q : F6} (hs : a6 s q) (hb : qb q) (k94 : Option (Int32 × (Nat → Int32) × (Nat → Int32))) (k78 : Int32 → Int32 → Int32 → Option (Int32 × (Nat → Int32) × (Nat → Int32))) (n : Nat) : fX3_shortenByOne_L9 k94 0 s k78 (n + 1) 1 = if 0 ≤ gg_ q.2.1 q.2.2.2.2.2 then fX3_shortenByOne_L9 k94 0 s k78 n 2 else k78 0 1 (Int32.ofInt (gt_ q.2.1 q.2.2.2.2.2)) := by
  have hq := qb_t hb
  obtain ⟨b1, b2, b3, b4, b5, b6⟩ := hb
  obtain ⟨h0, h1, h2, h3, h4, h5⟩ := hs
  have ht : q.2.2.2.2.2 * q.2.2.2.2.2 < 4 * q.1 * q.2.1 := by
    have e9 : 4 * q.1 * q.2.1 = 4 * q.2.1 * q.1 := by grind
    omega
  refine Eq.trans ?_ (s3_one (p := q.1) (u := q.2.1) (t := q.2.2.2.2.2) (by omega) (by omega) (by omega) ht (by omega) (fun r => k78 0 1 r) (fX3_shortenByOne_L9 k94 0 s k78 n 2))
  rw [← h1, ← h5]
  rfl
theorem s3_st02 {s : Nat → Int32} {q : F6} (hs : a6 s q) (hb : qb q) (k94 : Option (Int32 × (Nat → Int32) × (Nat → Int32))) (k78 : Int32 → Int32 → Int32 → Option (Int32 × (Nat → Int32) × (Nat → Int32))) (n : Nat) : fX3_shortenByOne_L9 k94 0 s k78 (n + 1) 2 = if 0 ≤ gg_ q.2.2.1 q.2.2.2.2.1 then fX3_shortenByOne_L9 k94 0 s k78 n 3 else k78 0 2 (Int32.ofInt (gt_ q.2.2.1 q.2.2.2.2.1)) := by
  have hq := qb_t hb
  obtain ⟨b1, b2, b3, b4, b5, b6⟩ := hb
  obtain ⟨h0, h1, h2, h3, h4, h5⟩ := hs
  have ht : q.2.2.2.2.1 * q.2.2.2.2.1 < 4 * q.1 * q.2.2.1 := by
    have e9 : 4 * q.1 * q.2.2.1 = 4 * q.2.2.1 * q.1 := by grind
    omega
  refine Eq.trans ?_ (s3_one (p := q.1) (u := q.2.2.1) (t := q.2.2.2.2.1) (by omega) (by omega) (by omega) ht (by omega) (fun r => k78 0 2 r) (fX3_shortenByOne_L9 k94 0 s k78 n 3))
  rw [← h2, ← h4]
  rfl
theorem s3_st10 {s : Nat → Int32} {q : F6} (hs : a6 s q) (hb : qb q) (k94 : Option (Int32 × (Nat → Int32) × (Nat → Int32))) (k78 : Int32 → Int32 → Int32 → Option (Int32 × (Nat → Int32) × (Nat → Int32))) (n : Nat) : fX3_shortenByOne_L9 k94 1 s k78 (n + 1) 0 = if 0 ≤ gg_ q.1 q.2.2.2.2.2 then fX3_shortenByOne_L9 k94 1 s k78 n 1 else k78 1 0 (Int32.ofInt (gt_ q.1 q.2.2.2.2.2)) := by
  have hq := qb_t hb
  obtain ⟨b1, b2, b3, b4, b5, b6⟩ := hb
  obtain ⟨h0, h1, h2, h3, h4, h5⟩ := hs
  have ht : q.2.2.2.2.2 * q.2.2.2.2.2 < 4 * q.2.1 * q.1 := by
    have e9 : 4 * q.2.1 * q.1 = 4 * q.1 * q.2.1 := by grind
    omega
  refine Eq.trans ?_ (s3_one (p := q.2.1) (u := q.1) (t := q.2.2.2.2.2) (by omega) (by omega) (by omega) ht (by omega) (fun r => k78 1 0 r) (fX3_shortenByOne_L9 k94 1 s k78 n 1))
  rw [← h0, ← h5]
  rfl
theorem s3_st12 {s : Nat → Int32} {q : F6} (hs : a6 s q) (hb : qb q) (k94 : Option (Int32 × (Nat → Int32) × (Nat → Int32))) (k78 : Int32 → Int32 → Int32 → Option (Int32 × (Nat → Int32) × (Nat → Int32))) (n : Nat) : fX3_shortenByOne_L9 k94 1 s k78 (n + 1) 2 = if 0 ≤ gg_ q.2.2.1 q.2.2.2.1 then fX3_shortenByOne_L9 k94 1 s k78 n 3 else k78 1 2 (Int32.ofInt (gt_ q.2.2.1 q.2.2.2.1)) := by
  have hq := qb_t hb
  obtain ⟨b1, b2, b3, b4, b5, b6⟩ := hb
  obtain ⟨h0, h1, h2, h3, h4, h5⟩ := hs
  have ht : q.2.2.2.1 * q.2.2.2.1 < 4 * q.2.1 * q.2.2.1 := by
    have e9 : 4 * q.2.1 * q.2.2.1 = 4 * q.2.2.1 * q.2.1 := by grind
    omega
  refine Eq.trans ?_ (s3_one (p := q.2.1) (u := q.2.2.1) (t := q.2.2.2.1) (by omega) (by omega) (by omega) ht (by omega) (fun r => k78 1 2 r) (fX3_shortenByOne_L9 k94 1 s k78 n 3))
  rw [← h2, ← h3]
  rfl
theorem s3_st20 {s : Nat → Int32} {q : F6} (hs : a6 s q) (hb : qb q) (k94 : Option (Int32 × (Nat → Int32) × (Nat → Int32))) (k78 : Int32 → Int32 → Int32 → Option (Int32 × (Nat → Int32) × (Nat → Int32))) (n : Nat) : fX3_shortenByOne_L9 k94 2 s k78 (n + 1) 0 = if 0 ≤ gg_ q.1 q.2.2.2.2.1 then fX3_shortenByOne_L9 k94 2 s k78 n 1 else k78 2 0 (Int32.ofInt (gt_ q.1 q.2.2.2.2.1)) := by
  have hq := qb_t hb
  obtain ⟨b1, b2, b3, b4, b5, b6⟩ := hb
  obtain ⟨h0, h1, h2, h3, h4, h5⟩ := hs
  have ht : q.2.2.2.2.1 * q.2.2.2.2.1 < 4 * q.2.2.1 * q.1 := by
    have e9 : 4 * q.2.2.1 * q.1 = 4 * q.1 * q.2.2.1 := by grind
    omega
  refine Eq.trans ?_ (s3_one (p := q.2.2.1) (u := q.1) (t := q.2.2.2.2.1) (by omega) (by omega) (by omega) ht (by omega) (fun r => k78 2 0 r) (fX3_shortenByOne_L9 k94 2 s k78 n 1))
  rw [← h0, ← h4]
  rfl
theorem s3_st21 {s : Nat → Int32} {q : F6} (hs : a6 s q) (hb : qb q) (k94 : Option (Int32 × (Nat → Int32) × (Nat → Int32))) (k78 : Int32 → Int32 → Int32 → Option (Int32 × (Nat → Int32) × (Nat → Int32))) (n : Nat) : fX3_shortenByOne_L9 k94 2 s k78 (n + 1) 1 = if 0 ≤ gg_ q.2.1 q.2.2.2.1 then fX3_shortenByOne_L9 k94 2 s k78 n 2 else k78 2 1 (Int32.ofInt (gt_ q.2.1 q.2.2.2.1)) := by
  have hq := qb_t hb
  obtain ⟨b1, b2, b3, b4, b5, b6⟩ := hb
  obtain ⟨h0, h1, h2, h3, h4, h5⟩ := hs
  have ht : q.2.2.2.1 * q.2.2.2.1 < 4 * q.2.2.1 * q.2.1 := by
    have e9 : 4 * q.2.2.1 * q.2.1 = 4 * q.2.1 * q.2.2.1 := by grind
    omega
  refine Eq.trans ?_ (s3_one (p := q.2.2.1) (u := q.2.1) (t := q.2.2.2.1) (by omega) (by omega) (by omega) ht (by omega) (fun r => k78 2 1 r) (fX3_shortenByOne_L9 k94 2 s k78 n 2))
  rw [← h1, ← h3]
  rfl
theorem s3_same (k94 : Option (Int32 × (Nat → Int32) × (Nat → Int32))) (s : Nat → Int32) (k78 : Int32 → Int32 → Int32 → Option (Int32 × (Nat → Int32) × (Nat → Int32))) (n : Nat) : fX3_shortenByOne_L9 k94 0 s k78 (n + 1) 0 = fX3_shortenByOne_L9 k94 0 s k78 n 1 ∧ fX3_shortenByOne_L9 k94 1 s k78 (n + 1) 1 = fX3_shortenByOne_L9 k94 1 s k78 n 2 ∧ fX3_shortenByOne_L9 k94 2 s k78 (n + 1) 2 = fX3_shortenByOne_L9 k94 2 s k78 n 3 ∧ (∀ i, fX3_shortenByOne_L9 k94 i s k78 (n + 1) 3 = k94) := ⟨rfl, rfl, rfl, fun _ => rfl⟩
def fX3_one9 (fu : Nat) (s r : Nat → Int32) (i j : Int32) (t : Int) : Option (Int32 × (Nat → Int32) × (Nat → Int32)) := bd2 (fX3_shift fu s r i j (Int32.ofInt t)) (fun s' r' => some ((1 : Int32), s', r'))
theorem s3_byOne0 (s r : Nat → Int32) (fu : Nat) : fX3_shortenByOne fu s r = fX3_shortenByOne_L2 s r (fun i j t => bd2 (fX3_shift fu s r i j t) (fun s' r' => some ((1 : Int32), s', r'))) fu fu 0 := rfl
theorem s3_two (s r : Nat → Int32) (k : Int32 → Int32 → Int32 → Option (Int32 × (Nat → Int32) × (Nat → Int32))) (fu m : Nat) : fX3_shortenByOne_L2 s r k fu (m + 1) 0 = fX3_shortenByOne_L9 (fX3_shortenByOne_L2 s r k fu m 1) 0 s k fu 0 ∧ fX3_shortenByOne_L2 s r k fu (m + 1) 1 = fX3_shortenByOne_L9 (fX3_shortenByOne_L2 s r k fu m 2) 1 s k fu 0 ∧ fX3_shortenByOne_L2 s r k fu (m + 1) 2 = fX3_shortenByOne_L9 (fX3_shortenByOne_L2 s r k fu m 3) 2 s k fu 0 ∧ fX3_shortenByOne_L2 s r k fu (m + 1) 3 = some (0, s, r) := ⟨rfl, rfl, rfl, rfl⟩
theorem s3_byOne {s : Nat → Int32} {q : F6} (hs : a6 s q) (hb : qb q) (r : Nat → Int32) (n : Nat) : fX3_shortenByOne (n + 4) s r = if 0 ≤ gg_ q.2.1 q.2.2.2.2.2 then if 0 ≤ gg_ q.2.2.1 q.2.2.2.2.1 then if 0 ≤ gg_ q.1 q.2.2.2.2.2 then if 0 ≤ gg_ q.2.2.1 q.2.2.2.1 then if 0 ≤ gg_ q.1 q.2.2.2.2.1 then if 0 ≤ gg_ q.2.1 q.2.2.2.1 then some (0, s, r) else fX3_one9 (n + 4) s r 2 1 (gt_ q.2.1 q.2.2.2.1) else fX3_one9 (n + 4) s r 2 0 (gt_ q.1 q.2.2.2.2.1) else fX3_one9 (n + 4) s r 1 2 (gt_ q.2.2.1 q.2.2.2.1) else fX3_one9 (n + 4) s r 1 0 (gt_ q.1 q.2.2.2.2.2) else fX3_one9 (n + 4) s r 0 2 (gt_ q.2.2.1 q.2.2.2.2.1) else fX3_one9 (n + 4) s r 0 1 (gt_ q.2.1 q.2.2.2.2.2) := by
  rw [s3_byOne0, (s3_two _ _ _ _ _).1, (s3_two _ _ _ _ _).2.1, (s3_two _ _ _ _ _).2.2.1, (s3_two _ _ _ _ _).2.2.2]
  rw [(s3_same _ _ _ _).1, s3_st01 hs hb, s3_st02 hs hb, (s3_same _ _ _ _).2.2.2, s3_st10 hs hb, (s3_same _ _ _ _).2.1, s3_st12 hs hb, (s3_same _ _ _ _).2.2.2, s3_st20 hs hb, s3_st21 hs hb, (s3_same _ _ _ _).2.2.1, (s3_same _ _ _ _).2.2.2]
  simp only [fX3_one9]
