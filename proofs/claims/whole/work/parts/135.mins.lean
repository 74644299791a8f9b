/-! the reference: the three least values -/
def cr3 (v r : V3) : V3 := (v.2.1 * r.2.2 - v.2.2 * r.2.1, v.2.2 * r.1 - v.1 * r.2.2, v.1 * r.2.1 - v.2.1 * r.1)
theorem cr3_det (u v r : V3) : qf_det (u, v, r) = u.1 * (cr3 v r).1 + u.2.1 * (cr3 v r).2.1 + u.2.2 * (cr3 v r).2.2 := by
  simp only [qf_det, cr3]
  grind
theorem l7_cross (a b c x y z : Int) : fX7_cross (Int64.ofInt a) (Int64.ofInt b) (Int64.ofInt c) (Int64.ofInt x) (Int64.ofInt y) (Int64.ofInt z) 0 = some (Int64.ofInt (cr3 (a, b, c) (x, y, z)).1) ∧ fX7_cross (Int64.ofInt a) (Int64.ofInt b) (Int64.ofInt c) (Int64.ofInt x) (Int64.ofInt y) (Int64.ofInt z) 1 = some (Int64.ofInt (cr3 (a, b, c) (x, y, z)).2.1) ∧ fX7_cross (Int64.ofInt a) (Int64.ofInt b) (Int64.ofInt c) (Int64.ofInt x) (Int64.ofInt y) (Int64.ofInt z) 2 = some (Int64.ofInt (cr3 (a, b, c) (x, y, z)).2.2) := by
  simp only [cr3, Int64.ofInt_sub, Int64.ofInt_mul]
  exact ⟨rfl, rfl, rfl⟩
def b4 (v : V3) : Prop := (-40000 ≤ v.1 ∧ v.1 ≤ 40000) ∧ (-40000 ≤ v.2.1 ∧ v.2.1 ≤ 40000) ∧ (-40000 ≤ v.2.2 ∧ v.2.2 ≤ 40000)
theorem b4_mul {x y A B : Int} (hx : -A ≤ x ∧ x ≤ A) (hy : -B ≤ y ∧ y ≤ B) : -(A * B) ≤ x * y ∧ x * y ≤ A * B := by
  have p1 : 0 ≤ (A - x) * (B + y) := Int.mul_nonneg (by omega) (by omega)
  have p2 : 0 ≤ (A + x) * (B - y) := Int.mul_nonneg (by omega) (by omega)
  have p3 : 0 ≤ (A - x) * (B - y) := Int.mul_nonneg (by omega) (by omega)
  have p4 : 0 ≤ (A + x) * (B + y) := Int.mul_nonneg (by omega) (by omega)
  have e1 : (A - x) * (B + y) = A * B + A * y - x * B - x * y := by grind
  have e2 : (A + x) * (B - y) = A * B - A * y + x * B - x * y := by grind
  have e3 : (A - x) * (B - y) = A * B - A * y - x * B + x * y := by grind
  have e4 : (A + x) * (B + y) = A * B + A * y + x * B + x * y := by grind
  constructor <;> omega
theorem b4_cr {v r : V3} (hv : b4 v) (hr : b4 r) : (-3200000000 ≤ (cr3 v r).1 ∧ (cr3 v r).1 ≤ 3200000000) ∧ (-3200000000 ≤ (cr3 v r).2.1 ∧ (cr3 v r).2.1 ≤ 3200000000) ∧ (-3200000000 ≤ (cr3 v r).2.2 ∧ (cr3 v r).2.2 ≤ 3200000000) := by
  obtain ⟨v1, v2, v3⟩ := hv
  obtain ⟨r1, r2, r3⟩ := hr
  simp only [cr3]
  have k1 := b4_mul v2 r3
  have k2 := b4_mul v3 r2
  have k3 := b4_mul v3 r1
  have k4 := b4_mul v1 r3
  have k5 := b4_mul v1 r2
  have k6 := b4_mul v2 r1
  refine ⟨⟨?_, ?_⟩, ⟨?_, ?_⟩, ⟨?_, ?_⟩⟩ <;> omega
theorem b4_det {u v r : V3} (hu : b4 u) (hv : b4 v) (hr : b4 r) : -400000000000000 ≤ qf_det (u, v, r) ∧ qf_det (u, v, r) ≤ 400000000000000 := by
  rw [cr3_det]
  obtain ⟨c1, c2, c3⟩ := b4_cr hv hr
  obtain ⟨u1, u2, u3⟩ := hu
  have k1 := b4_mul u1 c1
  have k2 := b4_mul u2 c2
  have k3 := b4_mul u3 c3
  constructor <;> omega
def ap0 (v : V3) : Bool := decide (v ≠ (0, 0, 0))
def ap1 (r v : V3) : Bool := decide (cr3 v r ≠ (0, 0, 0))
def ap2 (r s v : V3) : Bool := decide (qf_det (v, r, s) ≠ 0)
theorem l7_ap0 (rows : Nat → Int64) {v : V3} (hv : b4 v) : fX7_isApart rows (ix 0) (Int64.ofInt v.1) (Int64.ofInt v.2.1) (Int64.ofInt v.2.2) = some (if ap0 v = true then 1 else 0) := by
  obtain ⟨x, y, z⟩ := v
  obtain ⟨h1, h2, h3⟩ := hv
  simp only at h1 h2 h3
  have k : ∀ t : Int, -40000 ≤ t ∧ t ≤ 40000 → (Int64.ofInt t = 0 ↔ t = 0) := fun t ht => by rw [zl_0, zl_eq ⟨by omega, by omega⟩ ⟨by omega, by omega⟩]
  unfold fX7_isApart
  rw [if_pos (by decide)]
  simp only [nm_eq, k x h1, k y h2, k z h3, ap0, decide_eq_true_eq, ne_eq, Prod.mk.injEq]
  by_cases e1 : x = 0 <;> by_cases e2 : y = 0 <;> by_cases e3 : z = 0 <;> simp [e1, e2, e3]
theorem l7_ap1 {rows : Nat → Int64} {r v : V3} (hr : avl rows 0 r) (br : b4 r) (hv : b4 v) : fX7_isApart rows (ix 1) (Int64.ofInt v.1) (Int64.ofInt v.2.1) (Int64.ofInt v.2.2) = some (if ap1 r v = true then 1 else 0) := by
  obtain ⟨c1, c2, c3⟩ := b4_cr hv br
  obtain ⟨x, y, z⟩ := v
  obtain ⟨a, b, c⟩ := r
  obtain ⟨g0, g1, g2⟩ := hr
  simp only [Nat.zero_add] at g0 g1 g2
  have k : ∀ t : Int, -3200000000 ≤ t ∧ t ≤ 3200000000 → (Int64.ofInt t = 0 ↔ t = 0) := fun t ht => by rw [zl_0, zl_eq ⟨by omega, by omega⟩ ⟨by omega, by omega⟩]
  obtain ⟨l1, l2, l3⟩ := l7_cross x y z a b c
  have e9 : cr3 (x, y, z) (a, b, c) = ((cr3 (x, y, z) (a, b, c)).1, (cr3 (x, y, z) (a, b, c)).2.1, (cr3 (x, y, z) (a, b, c)).2.2) := rfl
  unfold fX7_isApart
  rw [if_neg (by decide), if_pos (by decide), g0, g1, g2, l1, l2, l3]
  unfold ap1
  rw [e9]
  generalize (cr3 (x, y, z) (a, b, c)).1 = u at *
  generalize (cr3 (x, y, z) (a, b, c)).2.1 = v at *
  generalize (cr3 (x, y, z) (a, b, c)).2.2 = w at *
  simp only [bd1, nm_eq, k u c1, k v c2, k w c3, decide_eq_true_eq, ne_eq, Prod.mk.injEq]
  by_cases e1 : u = 0 <;> by_cases e2 : v = 0 <;> by_cases e3 : w = 0 <;> simp [e1, e2, e3]
theorem l7_ap2 {rows : Nat → Int64} {r s v : V3} (hr : avl rows 0 r) (hs : avl rows 3 s) (br : b4 r) (bs : b4 s) (hv : b4 v) : fX7_isApart rows (ix 2) (Int64.ofInt v.1) (Int64.ofInt v.2.1) (Int64.ofInt v.2.2) = some (if ap2 r s v = true then 1 else 0) := by
  have hd := b4_det hv br bs
  obtain ⟨x, y, z⟩ := v
  obtain ⟨a, b, c⟩ := r
  obtain ⟨d, e, f⟩ := s
  obtain ⟨g0, g1, g2⟩ := hr
  obtain ⟨g3, g4, g5⟩ := hs
  simp only [Nat.zero_add] at g0 g1 g2
  simp only [Nat.reduceAdd] at g3 g4 g5
  obtain ⟨l1, l2, l3⟩ := l7_cross a b c d e f
  unfold fX7_isApart
  rw [if_neg (by decide), if_neg (by decide), g0, g1, g2, g3, g4, g5, l1, l2, l3]
  simp only [bd1, nm_eq]
  have e1 : Int64.ofInt x * Int64.ofInt (cr3 (a, b, c) (d, e, f)).1 + Int64.ofInt y * Int64.ofInt (cr3 (a, b, c) (d, e, f)).2.1 + Int64.ofInt z * Int64.ofInt (cr3 (a, b, c) (d, e, f)).2.2 = Int64.ofInt (qf_det ((x, y, z), (a, b, c), (d, e, f))) := by
    rw [cr3_det]
    simp only [Int64.ofInt_add, Int64.ofInt_mul]
  rw [e1]
  have k : Int64.ofInt (qf_det ((x, y, z), (a, b, c), (d, e, f))) = 0 ↔ qf_det ((x, y, z), (a, b, c), (d, e, f)) = 0 := by rw [zl_0, zl_eq ⟨by omega, by omega⟩ ⟨by omega, by omega⟩]
  unfold ap2
  by_cases h : qf_det ((x, y, z), (a, b, c), (d, e, f)) = 0
  · rw [if_pos (k.mpr h)]; simp [h]
  · rw [if_neg (fun g => h (k.mp g))]; simp [h]
theorem rc_A {a b d g D N : Int} (hA : 0 < 4 * a * b - d * d) (ha : 0 < a) (hb : 0 < b) (ha' : a ≤ 2 * g) (hb' : b ≤ 2 * g) (hg : 0 < g) (hgD : g ≤ D) (hg' : g ≤ 6912) (hN : 0 ≤ N) (hN' : N ≤ 2 * g ∨ N ≤ 100) : 0 ≤ N * (4 * a * b - d * d) ∧ N * (4 * a * b - d * d) ≤ 1600000000 * D := by
  refine ⟨Int.mul_nonneg hN (by omega), ?_⟩
  have h1 : 4 * a * b - d * d ≤ 16 * (g * g) := by
    have p1 := Int.mul_nonneg (by omega : (0 : Int) ≤ 2 * g - a) (by omega : (0 : Int) ≤ b)
    have p2 := Int.mul_nonneg (by omega : (0 : Int) ≤ 2 * g) (by omega : (0 : Int) ≤ 2 * g - b)
    have e1 : (2 * g - a) * b = 2 * g * b - a * b := by grind
    have e2 : (2 * g) * (2 * g - b) = 4 * (g * g) - 2 * g * b := by grind
    have e3 : 4 * a * b = 4 * (a * b) := by grind
    have := qf_sq d
    omega
  have h2 : N * (4 * a * b - d * d) ≤ N * (16 * (g * g)) := by
    have := Int.mul_nonneg hN (by omega : (0 : Int) ≤ 16 * (g * g) - (4 * a * b - d * d))
    have e : N * (16 * (g * g) - (4 * a * b - d * d)) = N * (16 * (g * g)) - N * (4 * a * b - d * d) := by grind
    omega
  have h3 : g * g ≤ 6912 * g := by
    have := Int.mul_nonneg (by omega : (0 : Int) ≤ 6912 - g) (by omega : (0 : Int) ≤ g)
    have e : (6912 - g) * g = 6912 * g - g * g := by grind
    omega
  rcases hN' with hN' | hN'
  · have h4 : N * (16 * (g * g)) ≤ 2 * g * (16 * (g * g)) := by
      have := Int.mul_nonneg (by omega : (0 : Int) ≤ 2 * g - N) (by have := qf_sq g; omega : (0 : Int) ≤ 16 * (g * g))
      have e : (2 * g - N) * (16 * (g * g)) = 2 * g * (16 * (g * g)) - N * (16 * (g * g)) := by grind
      omega
    have h5 : g * (g * g) ≤ 6912 * (g * g) := by
      have := Int.mul_nonneg (by omega : (0 : Int) ≤ 6912 - g) (qf_sq g)
      have e : (6912 - g) * (g * g) = 6912 * (g * g) - g * (g * g) := by grind
      omega
    have e : 2 * g * (16 * (g * g)) = 32 * (g * (g * g)) := by grind
    omega
  · have h4 : N * (16 * (g * g)) ≤ 100 * (16 * (g * g)) := by
      have := Int.mul_nonneg (by omega : (0 : Int) ≤ 100 - N) (by have := qf_sq g; omega : (0 : Int) ≤ 16 * (g * g))
      have e : (100 - N) * (16 * (g * g)) = 100 * (16 * (g * g)) - N * (16 * (g * g)) := by grind
      omega
    omega
theorem rc_mk {Q : F6} (hp : qf_pd Q) {g N : Int} (h1 : Q.1 ≤ 2 * g) (h2 : Q.2.1 ≤ 2 * g) (h3 : Q.2.2.1 ≤ 2 * g) (hg : 0 < g) (hgD : g ≤ qf_disc Q) (hD : qf_disc Q ≤ 6912) (hN : 0 ≤ N) (hN' : N ≤ 2 * g ∨ N ≤ 100) : rc_ok Q N := by
  have p1 := qf_pdv_of hp (1, 0, 0) (by decide)
  have p2 := qf_pdv_of hp (0, 1, 0) (by decide)
  have p3 := qf_pdv_of hp (0, 0, 1) (by decide)
  obtain ⟨a, b, c, d, e, f⟩ := Q
  have k1 := (qf_pd_xz hp).2.1
  have k2 := (qf_pd_yz hp).2.1
  have k3 := hp.2.1
  have e9 : 4 * c * b = 4 * b * c := by grind
  simp only [qf_val] at p1 p2 p3
  simp only at h1 h2 h3 k1 k2 k3
  rw [e9] at k1
  have pa : 0 < a := by omega
  have pb : 0 < b := by omega
  have pc : 0 < c := by omega
  simp only [rc_ok]
  exact ⟨hN, by omega, rc_A k1 pb pc h2 h3 hg hgD (by omega) hN hN', rc_A k2 pa pc h1 h3 hg hgD (by omega) hN hN', rc_A k3 pa pb h1 h2 hg hgD (by omega) hN hN'⟩
theorem pw_val {Q : F6} (hp : qf_pd Q) (hw : pw_ Q) (h1 : Q.1 ≤ 13824) (h2 : Q.2.1 ≤ 13824) (h3 : Q.2.2.1 ≤ 13824) {v : V3} (hv : b4 v) : 0 ≤ qf_val Q v ∧ qf_val Q v ≤ 1000000000000000 := by
  constructor
  · by_cases e : v = (0, 0, 0)
    · rw [e]; simp [qf_val]
    · exact Int.le_of_lt (qf_pdv_of hp v e)
  · obtain ⟨a, b, c, d, e, f⟩ := Q
    obtain ⟨x, y, z⟩ := v
    obtain ⟨w1, w2, w3, w4⟩ := hw
    obtain ⟨v1, v2, v3⟩ := hv
    simp only [qf_val] at *
    have k : ∀ t u w : Int, -13824 ≤ t → t ≤ 13824 → -40000 ≤ u ∧ u ≤ 40000 → -40000 ≤ w ∧ w ≤ 40000 → t * u * w ≤ 22118400000000 := by
      intro t u w t1 t2 u1 w1
      have m1 := b4_mul (A := 13824) (B := 40000) (x := t) (y := u) ⟨by omega, by omega⟩ u1
      have m2 := b4_mul (A := 552960000) (B := 40000) (x := t * u) (y := w) ⟨by omega, by omega⟩ w1
      omega
    have k1 := k a x x (by omega) (by omega) v1 v1
    have k2 := k b y y (by omega) (by omega) v2 v2
    have k3 := k c z z (by omega) (by omega) v3 v3
    have k4 := k d y z (by omega) (by omega) v2 v3
    have k5 := k e x z (by omega) (by omega) v1 v3
    have k6 := k f x y (by omega) (by omega) v1 v2
    omega
theorem l7_mins {Q : F6} {q : Nat → Int64} (hq : al6 q Q) (hp : qf_pd Q) (hw : pw_ Q) (hD : qf_disc Q ≤ 6912) {U : T9} (hU : qf_gl U) (hS : qr_S (qf_trn Q U)) (hgD : (qf_trn Q U).2.2.1 ≤ qf_disc Q) (h1 : Q.1 ≤ 2 * (qf_trn Q U).2.2.1) (h2 : Q.2.1 ≤ 2 * (qf_trn Q U).2.2.1) (h3 : Q.2.2.1 ≤ 2 * (qf_trn Q U).2.2.1) {N : Int} (n1 : Q.1 ≤ N) (n2 : Q.2.1 ≤ N) (n3 : Q.2.2.1 ≤ N) (hN : N ≤ 2 * (qf_trn Q U).2.2.1) (rows : Nat → Int64) {F : Nat} (hF : 100000 ≤ F) : ∃ r1 r2 r3, fX7_findApart F q rows 0 (Int64.ofInt N) = some (Int64.ofInt (qf_trn Q U).1, r1) ∧ fX7_findApart F q r1 1 (Int64.ofInt N) = some (Int64.ofInt (qf_trn Q U).2.1, r2) ∧ fX7_findApart F q r2 2 (Int64.ofInt N) = some (Int64.ofInt (qf_trn Q U).2.2.1, r3) := by
  have hnn : ∀ w : V3, 0 ≤ qf_val Q w := fun w => by
    by_cases e : w = (0, 0, 0)
    · rw [e]; simp [qf_val]
    · exact Int.le_of_lt (qf_pdv_of hp w e)
  have ha := hS.1
  have hab := hS.2.1
  have hbc := hS.2.2.1
  have hrc : rc_ok Q N := rc_mk hp h1 h2 h3 (by omega) hgD hD (by have := hw.1; omega) (Or.inl hN)
  have hNr : rL N := ⟨by have := hw.1; omega, by omega⟩
  have hD' : qf_disc Q ≤ 1000000000 := by omega
  have hval : ∀ v : V3, (-40000 ≤ v.1 ∧ v.1 ≤ 40000) → (-40000 ≤ v.2.1 ∧ v.2.1 ≤ 40000) → (-40000 ≤ v.2.2 ∧ v.2.2 ≤ 40000) → (0 ≤ qf_val Q v ∧ qf_val Q v ≤ 1000000000000000) := fun v v1 v2 v3 => pw_val hp hw (by omega) (by omega) (by omega) ⟨v1, v2, v3⟩
  have u1 : qf_val Q (1, 0, 0) ≤ N := by simp only [qf_val]; omega
  have u2 : qf_val Q (0, 1, 0) ≤ N := by simp only [qf_val]; omega
  have u3 : qf_val Q (0, 0, 1) ≤ N := by simp only [qf_val]; omega
  -- the first
  have C0 : fa_C Q N 0 ap0 (fun _ => True) q := ⟨hq, hNr, ⟨by decide, hnn⟩, fun v v1 v2 v3 => ⟨hval v v1 v2 v3, fun rows _ => l7_ap0 rows ⟨v1, v2, v3⟩⟩, fun _ _ _ _ _ => trivial⟩
  obtain ⟨b0, r1, w1, e0, _, hw1, bw1, a1, eb0, _, m0⟩ := fa_all C0 hp hrc hD' (rows := rows) trivial ⟨(1, 0, 0), by decide, u1⟩ hF
  have w1ne : w1 ≠ (0, 0, 0) := by simpa [ap0] using a1
  have val1 : qf_val Q w1 = (qf_trn Q U).1 := by
    have g1 := mn_1 hU hS w1ne
    obtain ⟨v, hv, ev⟩ := mn_ex1 (q := Q) hU
    have g2 := m0 v (by simpa [ap0] using hv)
    omega
  -- the second
  have C1 : fa_C Q N 1 (ap1 w1) (fun r => avl r 0 w1) q := ⟨hq, hNr, ⟨by decide, hnn⟩, fun v v1 v2 v3 => ⟨hval v v1 v2 v3, fun rows hr => l7_ap1 hr bw1 ⟨v1, v2, v3⟩⟩, fun rows x y z hr => ⟨by rw [up3_ne _ _ _ _ _ (by omega)]; exact hr.1, by rw [up3_ne _ _ _ _ _ (by omega)]; exact hr.2.1, by rw [up3_ne _ _ _ _ _ (by omega)]; exact hr.2.2⟩⟩
  have apx : ∀ u v : V3, qf_det (u, v, w1) ≠ 0 → ap1 w1 v = true := by
    intro u v h
    unfold ap1
    simp only [ne_eq, decide_eq_true_eq]
    intro e
    apply h
    rw [cr3_det, e]
    simp
  have apx' : ∀ v : V3, ap1 w1 v = true → ∃ u, qf_det (u, v, w1) ≠ 0 := by
    intro v h
    unfold ap1 at h
    simp only [ne_eq, decide_eq_true_eq] at h
    by_cases t1 : (cr3 v w1).1 = 0
    · by_cases t2 : (cr3 v w1).2.1 = 0
      · by_cases t3 : (cr3 v w1).2.2 = 0
        · exact absurd (Prod.ext t1 (Prod.ext t2 t3)) h
        · exact ⟨(0, 0, 1), by rw [cr3_det]; simpa using t3⟩
      · exact ⟨(0, 1, 0), by rw [cr3_det]; simpa using t2⟩
    · exact ⟨(1, 0, 0), by rw [cr3_det]; simpa using t1⟩
  have hex1 : ∃ v, ap1 w1 v = true ∧ qf_val Q v ≤ N := by
    obtain ⟨x, y, z⟩ := w1
    by_cases hy : y = 0
    · by_cases hz : z = 0
      · refine ⟨(0, 1, 0), apx (0, 0, 1) _ ?_, u2⟩
        have hx : x ≠ 0 := fun e => w1ne (by rw [e, hy, hz])
        simp only [qf_det]
        rw [hy, hz]
        omega
      · refine ⟨(1, 0, 0), apx (0, 1, 0) _ ?_, u1⟩
        simp only [qf_det]; omega
    · refine ⟨(1, 0, 0), apx (0, 0, 1) _ ?_, u1⟩
      simp only [qf_det]; omega
  obtain ⟨b1, r2, w2, e1, hr2, hw2, bw2, a2, eb1, _, m1⟩ := fa_all C1 hp hrc hD' (rows := r1) hw1 hex1 hF
  obtain ⟨y0, hy0⟩ := apx' w2 a2
  have val2 : qf_val Q w2 = (qf_trn Q U).2.1 := by
    have g1 := mn_min hU hS (M := (w1, w2, y0)) (by
      intro h
      apply hy0
      simp only [qf_det] at h ⊢
      grind)
    unfold qr_le3 at g1
    simp only at g1
    obtain ⟨v, u, hv, ev⟩ := mn_ex2 hU hS w1ne
    have g2 := m1 v (apx u v hv)
    omega
  -- the third
  have C2 : fa_C Q N 2 (ap2 w1 w2) (fun r => avl r 0 w1 ∧ avl r 3 w2) q := ⟨hq, hNr, ⟨by decide, hnn⟩, fun v v1 v2 v3 => ⟨hval v v1 v2 v3, fun rows hr => l7_ap2 hr.1 hr.2 bw1 bw2 ⟨v1, v2, v3⟩⟩, fun rows x y z hr => ⟨⟨by rw [up3_ne _ _ _ _ _ (by omega)]; exact hr.1.1, by rw [up3_ne _ _ _ _ _ (by omega)]; exact hr.1.2.1, by rw [up3_ne _ _ _ _ _ (by omega)]; exact hr.1.2.2⟩, ⟨by rw [up3_ne _ _ _ _ _ (by omega)]; exact hr.2.1, by rw [up3_ne _ _ _ _ _ (by omega)]; exact hr.2.2.1, by rw [up3_ne _ _ _ _ _ (by omega)]; exact hr.2.2.2⟩⟩⟩
  have hdd : qf_det (y0, w1, w2) ≠ 0 := by
    intro h
    apply hy0
    simp only [qf_det] at h ⊢
    grind
  have hex2 : ∃ v, ap2 w1 w2 v = true ∧ qf_val Q v ≤ N := by
    have hsum : qf_det (y0, w1, w2) = y0.1 * qf_det ((1, 0, 0), w1, w2) + y0.2.1 * qf_det ((0, 1, 0), w1, w2) + y0.2.2 * qf_det ((0, 0, 1), w1, w2) := by
      rw [cr3_det, cr3_det, cr3_det, cr3_det]
      simp
    unfold ap2
    simp only [ne_eq, decide_eq_true_eq]
    by_cases t1 : qf_det ((1, 0, 0), w1, w2) = 0
    · by_cases t2 : qf_det ((0, 1, 0), w1, w2) = 0
      · by_cases t3 : qf_det ((0, 0, 1), w1, w2) = 0
        · rw [t1, t2, t3] at hsum
          simp at hsum
          exact absurd hsum hdd
        · exact ⟨_, t3, u3⟩
      · exact ⟨_, t2, u2⟩
    · exact ⟨_, t1, u1⟩
  obtain ⟨b2, r3, w3, e2, hr3, hw3, bw3, a3, eb2, _, m2⟩ := fa_all C2 hp hrc hD' (rows := r2) ⟨hr2, hw2⟩ hex2 hF
  have val3 : qf_val Q w3 = (qf_trn Q U).2.2.1 := by
    have d3 : qf_det (w3, w1, w2) ≠ 0 := by simpa [ap2] using a3
    have g1 := mn_min hU hS (M := (w1, w2, w3)) (by
      intro h
      apply d3
      simp only [qf_det] at h ⊢
      grind)
    unfold qr_le3 at g1
    simp only at g1
    obtain ⟨v, hv, ev⟩ := mn_ex3 hU hS hdd
    have g2 := m2 v (by simpa [ap2] using hv)
    omega
  rw [val1] at eb0
  rw [val2] at eb1
  rw [val3] at eb2
  rw [eb0] at e0
  rw [eb1] at e1
  rw [eb2] at e2
  exact ⟨r1, r2, r3, e0, e1, e2⟩
