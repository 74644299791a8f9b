/-! how often a number is taken: the class's timesOf -/
theorem x4_disc {s : Nat → Int32} {q : F6} (hs : a6 s q) : fX4_discOf s = some (Int32.ofInt (qf_disc q)) := by
  obtain ⟨h0, h1, h2, h3, h4, h5⟩ := hs
  unfold fX4_discOf
  have e4 : (4 : Int32) = Int32.ofInt 4 := rfl
  simp only [nm_eq, h0, h1, h2, h3, h4, h5, qf_disc, Int32.ofInt_add, Int32.ofInt_mul, Int32.ofInt_sub, e4]
theorem zi_dvd {a b : Int} (ha : rI a) (hb : rI b) (hb0 : 0 < b) : (Int32.ofInt a - Int32.ofInt a / Int32.ofInt b * Int32.ofInt b = 0) ↔ b ∣ a := by
  have e0 : (0 : Int32) = Int32.ofInt 0 := rfl
  have h1 := Int.tmod_lt_of_pos a hb0
  have h2 := Int.lt_tmod_of_pos a hb0
  rw [zi_rem ha hb, e0, zi_eq ⟨by omega, by omega⟩ ⟨by omega, by omega⟩]
  exact ⟨Int.dvd_of_tmod_eq_zero, Int.tmod_eq_zero_of_dvd⟩
theorem x5_timesAt {s : Nat → Int32} {Q : F6} (hs : a6 s Q) (ha : 0 < Q.1) (ha' : Q.1 ≤ 19) (hf : -Q.1 ≤ Q.2.2.2.2.2 ∧ Q.2.2.2.2.2 ≤ Q.1) (he : -Q.1 ≤ Q.2.2.2.2.1 ∧ Q.2.2.2.2.1 ≤ Q.1) {y z N : Int} (hy : -20 ≤ y ∧ y ≤ 20) (hz : -20 ≤ z ∧ z ≤ 20) (hN : 0 ≤ N ∧ N ≤ 100) (hV0 : 0 ≤ qf_val Q (0, y, z)) (hV : 4 * Q.1 * qf_val Q (0, y, z) ≤ 40000000) {F : Nat} (hF : 100 ≤ F) : ∃ l : List Int, fX5_timesAt F s (Int32.ofInt N) (Int32.ofInt y) (Int32.ofInt z) = some (ix l.length) ∧ l.Nodup ∧ ∀ x, x ∈ l ↔ qf_val Q (x, y, z) = N := by
  have hval : ∀ x, qf_val Q (x, y, z) = Q.1 * x * x + (Q.2.2.2.2.2 * y + Q.2.2.2.2.1 * z) * x + qf_val Q (0, y, z) := by
    intro x
    simp only [qf_val]
    grind
  have hat := x4_at hs (0, y, z)
  obtain ⟨h0, h1, h2, h3, h4, h5⟩ := hs
  generalize qf_val Q (0, y, z) = V0 at *
  obtain ⟨a, b, c, d, e, f⟩ := Q
  simp only at *
  have mf := b4_mul (A := a) (B := 20) (x := f) (y := y) hf hy
  have me := b4_mul (A := a) (B := 20) (x := e) (y := z) he hz
  generalize hm : f * y + e * z = m at *
  have hm1 : -(40 * a) ≤ m ∧ m ≤ 40 * a := by omega
  have mm := b4_mul (A := 760) (B := 760) (x := m) (y := m) ⟨by omega, by omega⟩ ⟨by omega, by omega⟩
  have aN : 0 ≤ 4 * a * N ∧ 4 * a * N ≤ 7600 := by
    have p1 := Int.mul_nonneg (by omega : (0 : Int) ≤ a) hN.1
    have p2 := Int.mul_nonneg (by omega : (0 : Int) ≤ 19 - a) hN.1
    have e1 : (19 - a) * N = 19 * N - a * N := by grind
    have e2 : 4 * a * N = 4 * (a * N) := by grind
    omega
  have aV : 0 ≤ 4 * a * V0 := Int.mul_nonneg (by omega) hV0
  obtain ⟨S, hS⟩ : ∃ S, S = m * m - 4 * a * (V0 - N) := ⟨_, rfl⟩
  have hS2 : S = m * m - 4 * a * V0 + 4 * a * N := by rw [hS]; grind
  have sq := qf_sq m
  have rS : rI S := ⟨by omega, by omega⟩
  have sol := fun r => x5_sol (r := r) (V0 := V0) (N := N) ha hS
  have e1 : (2 : Int32) * s 0 = Int32.ofInt (2 * a) := by rw [h0]; simp
  have e2 : s 5 * Int32.ofInt y + s 4 * Int32.ofInt z = Int32.ofInt m := by rw [h5, h4, ← hm]; simp
  have e4 : Int32.ofInt m * Int32.ofInt m - ((2 : Int32) * Int32.ofInt (2 * a)) * (Int32.ofInt V0 - Int32.ofInt N) = Int32.ofInt S := by
    rw [hS]
    have e9 : (2 : Int32) = Int32.ofInt 2 := rfl
    rw [e9, ← Int32.ofInt_mul, ← Int32.ofInt_mul, ← Int32.ofInt_sub, ← Int32.ofInt_mul, ← Int32.ofInt_sub]
    congr 1
    grind
  have e0 : (0 : Int32) = Int32.ofInt 0 := rfl
  unfold fX5_timesAt
  have hat' : fX4_at s 0 (Int32.ofInt y) (Int32.ofInt z) = some (Int32.ofInt V0) := hat
  simp only [nm_eq, e1, e2, hat', bd1, e4]
  rw [if_neg (by rw [e0, zi_le ⟨by omega, by omega⟩ ⟨by omega, by omega⟩]; omega)]
  have hS0 : (0 : Int32) ≤ Int32.ofInt S ↔ 0 ≤ S := by rw [e0, zi_le ⟨by omega, by omega⟩ rS]
  by_cases g0 : 0 ≤ S
  · rw [if_pos (hS0.mpr g0)]
    obtain ⟨r, er, hr, hr1, hr2, _⟩ := x5_root g0 (by omega) (F := F) (by omega)
    rw [er]
    simp only
    have mr := b4_mul (A := 1000) (B := 1000) (x := r) (y := r) ⟨by omega, by omega⟩ ⟨by omega, by omega⟩
    have hrr : Int32.ofInt r * Int32.ofInt r = Int32.ofInt S ↔ r * r = S := by rw [← Int32.ofInt_mul, zi_eq ⟨by omega, by omega⟩ rS]
    obtain ⟨s1, s2⟩ := (sol r).2 hr.1 hr1 hr2
    by_cases g1 : r * r = S
    · rw [if_pos (hrr.mpr g1)]
      obtain ⟨l, l1, l2, l3⟩ := s2 g1
      have hne : ¬ Int32.ofInt (2 * a) = 0 := by rw [e0, zi_eq ⟨by omega, by omega⟩ ⟨by omega, by omega⟩]; omega
      rw [if_pos hne, ← Int32.ofInt_sub, ← Int32.ofInt_add]
      simp only [if_pos hne]
      have d1 := zi_dvd (a := r - m) (b := 2 * a) ⟨by omega, by omega⟩ ⟨by omega, by omega⟩ (by omega)
      have d2 := zi_dvd (a := r + m) (b := 2 * a) ⟨by omega, by omega⟩ ⟨by omega, by omega⟩ (by omega)
      have dr : Int32.ofInt r = 0 ↔ r = 0 := by rw [e0, zi_eq ⟨by omega, by omega⟩ ⟨by omega, by omega⟩]
      simp only [d1, d2, dr]
      refine ⟨l, ?_, l1, fun x => ?_⟩
      · rw [l3]
        by_cases c2 : r = 0
        · have c4 : ¬ (r ≠ 0 ∧ (2 * a) ∣ (r + m)) := fun h => h.1 c2
          by_cases c1 : (2 * a) ∣ (r - m)
          · simp only [if_pos c1, if_pos c2, if_neg c4]; rfl
          · simp only [if_neg c1, if_pos c2, if_neg c4]; rfl
        · by_cases c3 : (2 * a) ∣ (r + m)
          · have c4 : (r ≠ 0 ∧ (2 * a) ∣ (r + m)) := ⟨c2, c3⟩
            by_cases c1 : (2 * a) ∣ (r - m)
            · simp only [if_pos c1, if_neg c2, if_pos c3, if_pos c4]; rfl
            · simp only [if_neg c1, if_neg c2, if_pos c3, if_pos c4]; rfl
          · have c4 : ¬ (r ≠ 0 ∧ (2 * a) ∣ (r + m)) := fun h => c3 h.2
            by_cases c1 : (2 * a) ∣ (r - m)
            · simp only [if_pos c1, if_neg c2, if_neg c3, if_neg c4]; rfl
            · simp only [if_neg c1, if_neg c2, if_neg c3, if_neg c4]; rfl
      · rw [hval x]; exact l2 x
    · rw [if_neg (fun h => g1 (hrr.mp h))]
      refine ⟨[], rfl, List.Pairwise.nil, fun x => ?_⟩
      rw [hval x]
      simp only [List.not_mem_nil, false_iff]
      exact s1 g1 x
  · rw [if_neg (fun h => g0 (hS0.mp h))]
    refine ⟨[], rfl, List.Pairwise.nil, fun x => ?_⟩
    rw [hval x]
    simp only [List.not_mem_nil, false_iff]
    exact (sol 0).1 (by omega) x
def to_I (Q : F6) (N : Int) (P : V3 → Prop) (t : Int32) : Prop := ∃ acc : List V3, acc.Nodup ∧ (∀ v, v ∈ acc ↔ P v ∧ qf_val Q v = N) ∧ t = ix acc.length
def to_C (Q : F6) (N : Int) (F : Nat) (s : Nat → Int32) : Prop := ∀ y z : Int, -20 ≤ y ∧ y ≤ 20 → -20 ≤ z ∧ z ≤ 20 → ∃ l : List Int, fX5_timesAt F s (Int32.ofInt N) (Int32.ofInt y) (Int32.ofInt z) = some (ix l.length) ∧ l.Nodup ∧ ∀ x, x ∈ l ↔ qf_val Q (x, y, z) = N
theorem to_y {Q : F6} {N : Int} {F : Nat} {s : Nat → Int32} (hC : to_C Q N F s) {z ry : Int} (hz : -20 ≤ z ∧ z ≤ 20) (hr : ry ≤ 20) (k107 : Int32 → Option Int32) : ∀ (k n : Nat) (y : Int) (P : V3 → Prop) (t : Int32), y + k = ry + 1 → -20 ≤ y → k + 1 ≤ n → to_I Q N P t → (∀ v, P v → ¬ (v.2.2 = z ∧ y ≤ v.2.1)) → ∃ t', fX5_timesOf_L81 (Int32.ofInt ry) k107 F s (Int32.ofInt N) (Int32.ofInt z) n t (Int32.ofInt y) = k107 t' ∧ to_I Q N (fun v => P v ∨ (v.2.2 = z ∧ y ≤ v.2.1 ∧ v.2.1 ≤ ry)) t' := by
  intro k
  induction k with
  | zero =>
    intro n y P t e1 e2 e3 hI hP
    obtain ⟨n, rfl⟩ : ∃ j, n = j + 1 := ⟨n - 1, by omega⟩
    rw [fX5_timesOf_L81, if_pos (by rw [zi_lt ⟨by omega, by omega⟩ ⟨by omega, by omega⟩]; omega)]
    refine ⟨_, rfl, ?_⟩
    obtain ⟨acc, a1, a2, a3⟩ := hI
    refine ⟨acc, a1, fun v => ?_, a3⟩
    rw [a2 v]
    constructor
    · rintro ⟨h, h'⟩; exact ⟨Or.inl h, h'⟩
    · rintro ⟨h | h, h'⟩
      · exact ⟨h, h'⟩
      · omega
  | succ k ih =>
    intro n y P t e1 e2 e3 hI hP
    obtain ⟨n, rfl⟩ : ∃ j, n = j + 1 := ⟨n - 1, by omega⟩
    rw [fX5_timesOf_L81, if_neg (by rw [zi_lt ⟨by omega, by omega⟩ ⟨by omega, by omega⟩]; omega)]
    obtain ⟨l, f1, f2, f3⟩ := hC y z ⟨e2, by omega⟩ hz
    have e9 : (1 : Int32) = Int32.ofInt 1 := rfl
    rw [f1]
    simp only [bd1, nm_eq]
    rw [e9, ← Int32.ofInt_add]
    obtain ⟨acc, a1, a2, a3⟩ := hI
    have hI2 : to_I Q N (fun v => P v ∨ (v.2.1 = y ∧ v.2.2 = z)) (t + ix l.length) := by
      refine ⟨acc ++ l.map (fun x => (x, y, z)), ?_, fun v => ?_, by rw [a3, ix_add, List.length_append, List.length_map]⟩
      · refine List.pairwise_append.mpr ⟨a1, nd_map (fun x y e => by simp only [Prod.mk.injEq] at e; exact e.1) f2, fun v hv w hw e => ?_⟩
        obtain ⟨x, _, ex⟩ := List.mem_map.mp hw
        have h1 := ((a2 v).mp hv).1
        rw [e, ← ex] at h1
        exact hP _ h1 ⟨rfl, Int.le_refl _⟩
      · rw [List.mem_append, a2 v, List.mem_map]
        constructor
        · rintro (⟨h, h'⟩ | ⟨x, hx, ex⟩)
          · exact ⟨Or.inl h, h'⟩
          · rw [← ex]
            exact ⟨Or.inr ⟨rfl, rfl⟩, (f3 x).mp hx⟩
        · rintro ⟨h | ⟨h, h''⟩, h'⟩
          · exact Or.inl ⟨h, h'⟩
          · obtain ⟨v1, v2, v3⟩ := v
            simp only at h h''
            subst h; subst h''
            exact Or.inr ⟨v1, (f3 v1).mpr h', rfl⟩
    obtain ⟨t', g1, acc', b1, b2, b3⟩ := ih n (y + 1) _ _ (by omega) (by omega) (by omega) hI2 (fun v hv => by
      rcases hv with hv | hv
      · have := hP v hv
        omega
      · omega)
    refine ⟨t', g1, acc', b1, fun v => ?_, b3⟩
    rw [b2 v]
    constructor
    · rintro ⟨(h | h) | h, h'⟩
      · exact ⟨Or.inl h, h'⟩
      · exact ⟨Or.inr (by omega), h'⟩
      · exact ⟨Or.inr (by omega), h'⟩
    · rintro ⟨h | h, h'⟩
      · exact ⟨Or.inl (Or.inl h), h'⟩
      · by_cases g : v.2.1 = y
        · exact ⟨Or.inl (Or.inr ⟨g, h.1⟩), h'⟩
        · exact ⟨Or.inr (by omega), h'⟩
theorem to_z {Q : F6} {N : Int} {F : Nat} (hF : 100 ≤ F) {s : Nat → Int32} (hC : to_C Q N F s) {rz ry : Int} (hrz : rz ≤ 20) (hr : 0 ≤ ry ∧ ry ≤ 20) : ∀ (k n : Nat) (z : Int) (P : V3 → Prop) (t : Int32), z + k = rz + 1 → -20 ≤ z → k + 1 ≤ n → to_I Q N P t → (∀ v, P v → v.2.2 < z) → ∃ t', fX5_timesOf_L70 (Int32.ofInt rz) (Int32.ofInt ry) F s (Int32.ofInt N) n t (Int32.ofInt z) = some t' ∧ to_I Q N (fun v => P v ∨ ((z ≤ v.2.2 ∧ v.2.2 ≤ rz) ∧ -ry ≤ v.2.1 ∧ v.2.1 ≤ ry)) t' := by
  intro k
  induction k with
  | zero =>
    intro n z P t e1 e2 e3 hI hP
    obtain ⟨n, rfl⟩ : ∃ j, n = j + 1 := ⟨n - 1, by omega⟩
    rw [fX5_timesOf_L70, if_pos (by rw [zi_lt ⟨by omega, by omega⟩ ⟨by omega, by omega⟩]; omega)]
    refine ⟨_, rfl, ?_⟩
    obtain ⟨acc, a1, a2, a3⟩ := hI
    refine ⟨acc, a1, fun v => ?_, a3⟩
    rw [a2 v]
    constructor
    · rintro ⟨h, h'⟩; exact ⟨Or.inl h, h'⟩
    · rintro ⟨h | h, h'⟩
      · exact ⟨h, h'⟩
      · omega
  | succ k ih =>
    intro n z P t e1 e2 e3 hI hP
    obtain ⟨n, rfl⟩ : ∃ j, n = j + 1 := ⟨n - 1, by omega⟩
    have e9 : (1 : Int32) = Int32.ofInt 1 := rfl
    obtain ⟨t1, g1, hI2⟩ := to_y hC (z := z) (ry := ry) ⟨e2, by omega⟩ hr.2 (fun t => fX5_timesOf_L70 (Int32.ofInt rz) (Int32.ofInt ry) F s (Int32.ofInt N) n t (Int32.ofInt (z + 1))) (2 * ry + 1).toNat F (-ry) P t (by omega) (by omega) (by omega) hI (fun v hv => by have := hP v hv; omega)
    obtain ⟨t', g2, acc', b1, b2, b3⟩ := ih n (z + 1) _ t1 (by omega) (by omega) (by omega) hI2 (fun v hv => by
      rcases hv with hv | hv
      · have := hP v hv
        omega
      · omega)
    refine ⟨t', ?_, acc', b1, fun v => ?_, b3⟩
    · rw [fX5_timesOf_L70, if_neg (by rw [zi_lt ⟨by omega, by omega⟩ ⟨by omega, by omega⟩]; omega)]
      simp only [nm_eq, e9, ← Int32.ofInt_neg, ← Int32.ofInt_add]
      exact g1.trans g2
    · rw [b2 v]
      constructor
      · rintro ⟨(h | h) | h, h'⟩
        · exact ⟨Or.inl h, h'⟩
        · exact ⟨Or.inr (by omega), h'⟩
        · exact ⟨Or.inr (by omega), h'⟩
      · rintro ⟨h | h, h'⟩
        · exact ⟨Or.inl (Or.inl h), h'⟩
        · by_cases g : v.2.2 = z
          · exact ⟨Or.inl (Or.inr (by omega)), h'⟩
          · exact ⟨Or.inr (by omega), h'⟩
theorem to_rt {A D N x y : Int} (hD : 0 < D) (hA : 0 < A) (hAD : N * A ≤ 400 * D) (hN : 0 ≤ N ∧ N ≤ 100) (rA : A ≤ 30000) (rD : D ≤ 6912) {F : Nat} (hF : 100 ≤ F) : ∃ r, fX5_rootOf F ((Int32.ofInt N * Int32.ofInt A) / Int32.ofInt D) = some (Int32.ofInt r) ∧ (0 ≤ r ∧ r ≤ 20) ∧ ∀ x : Int, D * (x * x) ≤ A * N → -r ≤ x ∧ x ≤ r := by
  have hNA : 0 ≤ N * A := Int.mul_nonneg hN.1 (by omega)
  rw [← Int32.ofInt_mul, zi_div ⟨by omega, by omega⟩ ⟨by omega, by omega⟩, Int.tdiv_eq_ediv_of_nonneg hNA]
  have h5 := Int.emod_nonneg (N * A) (by omega : D ≠ 0)
  have h6 := Int.emod_lt_of_pos (N * A) hD
  have h7 := Int.emod_add_mul_ediv (N * A) D
  have k1 : 0 ≤ N * A / D := Int.ediv_nonneg hNA (by omega)
  have k2 : N * A / D ≤ 400 := by
    rcases qf_lg 400 (N * A / D) with g | g
    · have := Int.mul_pos hD (by omega : (0 : Int) < N * A / D - 400)
      have e : D * (N * A / D - 400) = D * (N * A / D) - 400 * D := by grind
      omega
    · exact g
  obtain ⟨r, e1, g1, g2, g3, g4⟩ := x5_root k1 (by omega) (F := F) (by omega)
  refine ⟨r, e1, ⟨g1.1, ?_⟩, fun x hx => g4 x ?_⟩
  · rcases qf_lg 20 r with g | g
    · have : 0 < (r - 20) * (r + 20) := Int.mul_pos (by omega) (by omega)
      have e : (r - 20) * (r + 20) = r * r - 400 := by grind
      omega
    · exact g
  · have e2 : A * N = N * A := Int.mul_comm _ _
    rcases qf_lg (N * A / D) (x * x) with g | g
    · have := Int.mul_nonneg (Int.le_of_lt hD) (by omega : (0 : Int) ≤ x * x - N * A / D - 1)
      have e : D * (x * x - N * A / D - 1) = D * (x * x) - D * (N * A / D) - D := by grind
      omega
    · exact g
theorem x5_timesOf {s : Nat → Int32} {L : F6} (hs : a6 s L) (hp : qf_pd L) (hS : qr_S L) (hD : qf_disc L ≤ 6912) {N : Int} (hN : 0 ≤ N ∧ N ≤ 100) {F : Nat} (hF : 100 ≤ F) : ∃ k, fX5_timesOf F s (Int32.ofInt N) = some (ix k) ∧ cnt_ L N k := by
  have habc := qr_abc hS
  have hry := qf_reach_y hp
  have hrz := qf_reach_z hp
  have hnn : ∀ w : V3, 0 ≤ qf_val L w := fun w => by
    by_cases e : w = (0, 0, 0)
    · rw [e]; simp [qf_val]
    · exact Int.le_of_lt (qf_pdv_of hp w e)
  have hs' := hs
  have hD0 := hp.2.2
  have hdisc := x4_disc hs
  obtain ⟨h0, h1, h2, h3, h4, h5⟩ := hs
  have kz := hp.2.1
  have ky : 0 < 4 * L.1 * L.2.2.1 - L.2.2.2.2.1 * L.2.2.2.2.1 := by
    obtain ⟨a, b, c, d, e, f⟩ := L
    exact (qf_pd_yz hp).2.1
  have hS' := hS
  obtain ⟨ha, hab, hbc, hf, he, hd, _⟩ := hS'
  -- products
  have pab : 0 < L.1 * L.2.1 := Int.mul_pos ha (by omega)
  have pac : 0 < L.1 * L.2.2.1 := Int.mul_pos ha (by omega)
  have qab : L.1 * L.2.1 ≤ qf_disc L := by
    have := Int.mul_nonneg (Int.le_of_lt pab) (by omega : (0 : Int) ≤ L.2.2.1 - 1)
    have e : L.1 * L.2.1 * (L.2.2.1 - 1) = L.1 * L.2.1 * L.2.2.1 - L.1 * L.2.1 := by grind
    omega
  have qac : L.1 * L.2.2.1 ≤ qf_disc L := by
    have := Int.mul_nonneg (Int.le_of_lt pac) (by omega : (0 : Int) ≤ L.2.1 - 1)
    have e : L.1 * L.2.2.1 * (L.2.1 - 1) = L.1 * L.2.1 * L.2.2.1 - L.1 * L.2.2.1 := by grind
    omega
  have ha19 : L.1 ≤ 19 := by
    rcases qf_lg 19 L.1 with g | g
    · have m1 := Int.mul_nonneg (by omega : (0 : Int) ≤ L.1 - 20) (by omega : (0 : Int) ≤ L.1)
      have e1 : (L.1 - 20) * L.1 = L.1 * L.1 - 20 * L.1 := by grind
      have m2 := Int.mul_nonneg (by omega : (0 : Int) ≤ L.1) (by omega : (0 : Int) ≤ L.2.1 - L.1)
      have e2 : L.1 * (L.2.1 - L.1) = L.1 * L.2.1 - L.1 * L.1 := by grind
      have m3 := Int.mul_nonneg (by omega : (0 : Int) ≤ L.1 * L.2.1 - 400) (by omega : (0 : Int) ≤ L.2.2.1)
      have e3 : (L.1 * L.2.1 - 400) * L.2.2.1 = L.1 * L.2.1 * L.2.2.1 - 400 * L.2.2.1 := by grind
      omega
    · exact g
  have hto : to_C L N F s := by
    intro y z hy hz
    refine x5_timesAt hs' ha ha19 hf he hy hz hN (hnn _) ?_ hF
    simp only [qf_val]
    obtain ⟨a, b, c, d, e, f⟩ := L
    simp only at *
    have yy := b4_mul (A := 20) (B := 20) (x := y) (y := y) hy hy
    have zz := b4_mul (A := 20) (B := 20) (x := z) (y := z) hz hz
    have yz := b4_mul (A := 20) (B := 20) (x := y) (y := z) hy hz
    have m1 := Int.mul_nonneg (Int.le_of_lt pab) (by omega : (0 : Int) ≤ 400 - y * y)
    have m2 := Int.mul_nonneg (Int.le_of_lt pac) (by omega : (0 : Int) ≤ 400 - z * z)
    have m3 := b4_mul (A := b) (B := 400) (x := d) (y := y * z) hd ⟨by omega, by omega⟩
    have m4 := Int.mul_nonneg (Int.le_of_lt ha) (by omega : (0 : Int) ≤ b * 400 - d * (y * z))
    have e1 : 4 * a * (a * 0 * 0 + b * y * y + c * z * z + d * y * z + e * 0 * z + f * 0 * y) = 4 * (400 * (a * b) - a * b * (400 - y * y)) + 4 * (400 * (a * c) - a * c * (400 - z * z)) + 4 * (400 * (a * b) - a * (b * 400 - d * (y * z))) := by grind
    omega
  have NA : ∀ x d : Int, 0 < x → x ≤ qf_disc L → N * (4 * x - d * d) ≤ 400 * qf_disc L := by
    intro x d hx hx'
    have m1 := Int.mul_nonneg hN.1 (qf_sq d)
    have m2 := Int.mul_nonneg (by omega : (0 : Int) ≤ 100 - N) (by omega : (0 : Int) ≤ x)
    have e1 : N * (4 * x - d * d) = 4 * (N * x) - N * (d * d) := by grind
    have e2 : (100 - N) * x = 100 * x - N * x := by grind
    omega
  have eA : 4 * L.1 * L.2.2.1 = 4 * (L.1 * L.2.2.1) := by grind
  have eB : 4 * L.1 * L.2.1 = 4 * (L.1 * L.2.1) := by grind
  have sq1 := qf_sq L.2.2.2.2.1
  have sq2 := qf_sq L.2.2.2.2.2
  obtain ⟨ry, ey, by1, by2⟩ := to_rt (x := 0) (y := 0) hD0 ky (by rw [eA]; exact NA _ _ pac qac) hN (by omega) hD hF
  obtain ⟨rz, ez, bz1, bz2⟩ := to_rt (x := 0) (y := 0) hD0 kz (by rw [eB]; exact NA _ _ pab qab) hN (by omega) hD hF
  obtain ⟨t', g1, acc, g2, g3, g4⟩ := to_z hF hto (rz := rz) (ry := ry) bz1.2 by1 (2 * rz + 1).toNat F (-rz) (fun _ => False) 0 (by omega) (by omega) (by omega) ⟨[], List.Pairwise.nil, fun v => by simp, rfl⟩ (fun v hv => hv.elim)
  refine ⟨acc.length, ?_, acc, g2, fun v => ?_, rfl⟩
  · unfold fX5_timesOf
    have e0 : (0 : Int32) = Int32.ofInt 0 := rfl
    have e4 : (4 : Int32) = Int32.ofInt 4 := rfl
    have hne : ¬ Int32.ofInt (qf_disc L) = 0 := by rw [e0, zi_eq ⟨by omega, by omega⟩ ⟨by omega, by omega⟩]; omega
    rw [hdisc]
    simp only [bd1]
    rw [if_pos (by rw [e0, zi_lt ⟨by omega, by omega⟩ ⟨by omega, by omega⟩]; omega), if_pos hne]
    have ea : (4 : Int32) * (s 0) * (s 2) - (s 4) * (s 4) = Int32.ofInt (4 * L.1 * L.2.2.1 - L.2.2.2.2.1 * L.2.2.2.2.1) := by rw [h0, h2, h4, e4]; simp only [Int32.ofInt_sub, Int32.ofInt_mul]
    have eb : (4 : Int32) * (s 0) * (s 1) - (s 5) * (s 5) = Int32.ofInt (4 * L.1 * L.2.1 - L.2.2.2.2.2 * L.2.2.2.2.2) := by rw [h0, h1, h5, e4]; simp only [Int32.ofInt_sub, Int32.ofInt_mul]
    rw [ea, eb, ey, ez]
    simp only [if_pos hne, nm_eq, ← Int32.ofInt_neg]
    rw [g1, g4]
  · rw [g3 v]
    constructor
    · exact fun h => h.2
    · intro h
      have q1 := by2 v.2.1 (by have := hry v; rw [h] at this; exact this)
      have q2 := bz2 v.2.2 (by have := hrz v; rw [h] at this; exact this)
      exact ⟨Or.inr ⟨⟨by omega, by omega⟩, by omega, by omega⟩, h⟩
