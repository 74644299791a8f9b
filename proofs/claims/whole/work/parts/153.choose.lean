/-! lines: the class's choose -/
/-- numbers of a form that are small enough for its lines -/
def qs_ (Q : F6) : Prop := (-6912 ≤ Q.1 ∧ Q.1 ≤ 6912) ∧ (-6912 ≤ Q.2.1 ∧ Q.2.1 ≤ 6912) ∧ (-6912 ≤ Q.2.2.1 ∧ Q.2.2.1 ≤ 6912) ∧ (-6912 ≤ Q.2.2.2.1 ∧ Q.2.2.2.1 ≤ 6912) ∧ (-6912 ≤ Q.2.2.2.2.1 ∧ Q.2.2.2.2.1 ≤ 6912) ∧ (-6912 ≤ Q.2.2.2.2.2 ∧ Q.2.2.2.2.2 ≤ 6912)
def v60 (v : V3) : Prop := (-60 ≤ v.1 ∧ v.1 ≤ 60) ∧ (-60 ≤ v.2.1 ∧ v.2.1 ≤ 60) ∧ (-60 ≤ v.2.2 ∧ v.2.2 ≤ 60)
theorem qs_val {Q : F6} (h : qs_ Q) {v : V3} (hv : v60 v) : -200000000 ≤ qf_val Q v ∧ qf_val Q v ≤ 200000000 := by
  obtain ⟨a, b, c, d, e, f⟩ := Q
  obtain ⟨x, y, z⟩ := v
  obtain ⟨q1, q2, q3, q4, q5, q6⟩ := h
  obtain ⟨v1, v2, v3⟩ := hv
  simp only [qf_val] at *
  have k : ∀ t u w : Int, -6912 ≤ t ∧ t ≤ 6912 → -60 ≤ u ∧ u ≤ 60 → -60 ≤ w ∧ w ≤ 60 → -24883200 ≤ t * u * w ∧ t * u * w ≤ 24883200 := by
    intro t u w t1 u1 w1
    have m1 := b4_mul (A := 6912) (B := 60) (x := t) (y := u) t1 u1
    have m2 := b4_mul (A := 414720) (B := 60) (x := t * u) (y := w) ⟨by omega, by omega⟩ w1
    constructor <;> omega
  have k1 := k a x x q1 v1 v1
  have k2 := k b y y q2 v2 v2
  have k3 := k c z z q3 v3 v3
  have k4 := k d y z q4 v2 v3
  have k5 := k e x z q5 v1 v3
  have k6 := k f x y q6 v1 v2
  constructor <;> omega
theorem qs_tch {Q : F6} (h : qs_ Q) {v w : V3} (hv : v60 v) (hw : v60 w) : -400000000 ≤ qf_tch Q v w ∧ qf_tch Q v w ≤ 400000000 := by
  obtain ⟨a, b, c, d, e, f⟩ := Q
  obtain ⟨x, y, z⟩ := v
  obtain ⟨x', y', z'⟩ := w
  obtain ⟨q1, q2, q3, q4, q5, q6⟩ := h
  obtain ⟨v1, v2, v3⟩ := hv
  obtain ⟨u1, u2, u3⟩ := hw
  simp only [qf_tch] at *
  have k : ∀ t u w : Int, -6912 ≤ t ∧ t ≤ 6912 → -60 ≤ u ∧ u ≤ 60 → -60 ≤ w ∧ w ≤ 60 → -24883200 ≤ t * u * w ∧ t * u * w ≤ 24883200 := by
    intro t u w t1 u1 w1
    have m1 := b4_mul (A := 6912) (B := 60) (x := t) (y := u) t1 u1
    have m2 := b4_mul (A := 414720) (B := 60) (x := t * u) (y := w) ⟨by omega, by omega⟩ w1
    constructor <;> omega
  have j1 := k a x x' q1 v1 u1
  have j2 := k b y y' q2 v2 u2
  have j3 := k c z z' q3 v3 u3
  have j4 := k d y z' q4 v2 u3
  have j5 := k d z y' q4 v3 u2
  have j6 := k e x z' q5 v1 u3
  have j7 := k e z x' q5 v3 u1
  have j8 := k f x y' q6 v1 u2
  have j9 := k f y x' q6 v2 u1
  have e1 : 2 * a * x * x' + 2 * b * y * y' + 2 * c * z * z' + d * (y * z' + z * y') + e * (x * z' + z * x') + f * (x * y' + y * x') = 2 * (a * x * x') + 2 * (b * y * y') + 2 * (c * z * z') + (d * y * z' + d * z * y') + (e * x * z' + e * z * x') + (f * x * y' + f * y * x') := by grind
  rw [e1]
  constructor <;> omega
theorem x4_tu0 {s r : Nat → Int32} {Q : F6} {v : V3} {i n : Nat} (hs : a6 s Q) (hv : av r i v) (hi : i + 2 < n) (hn : n ≤ 2147483647) : fX4_touchUnit n s r (ix i) 0 = some (Int32.ofInt (qf_tch Q v (un 0))) := by
  obtain ⟨h0, h1, h2, h3, h4, h5⟩ := hs
  have main : fX4_touchUnit n s r (ix i) 0 = (if okI (ix i + ix 0) n then if okI (ix i + ix 1) n then if okI (ix i + ix 2) n then some ((((2 : Int32) * s 0) * r (ix i + ix 0).toNatClampNeg + s 5 * r (ix i + ix 1).toNatClampNeg) + s 4 * r (ix i + ix 2).toNatClampNeg) else none else none else none) := rfl
  rw [main, ix_add, ix_add, ix_add, if_pos (ix_ok (by omega) hn), if_pos (ix_ok (by omega) hn), if_pos (ix_ok (by omega) hn), ix_nat (by omega), ix_nat (by omega), ix_nat (by omega)]
  have e0 : r (i + 0) = Int32.ofInt v.1 := hv.1
  have e1 : r (i + 1) = Int32.ofInt v.2.1 := hv.2.1
  have e2 : r (i + 2) = Int32.ofInt v.2.2 := hv.2.2
  simp only [e0, e1, e2, h0, h1, h2, h3, h4, h5]
  congr 1
  have t2 : (2 : Int32) = Int32.ofInt 2 := rfl
  rw [t2]
  simp only [← Int32.ofInt_add, ← Int32.ofInt_mul]
  congr 1
  simp only [qf_tch, un]
  grind
theorem x4_tu1 {s r : Nat → Int32} {Q : F6} {v : V3} {i n : Nat} (hs : a6 s Q) (hv : av r i v) (hi : i + 2 < n) (hn : n ≤ 2147483647) : fX4_touchUnit n s r (ix i) 1 = some (Int32.ofInt (qf_tch Q v (un 1))) := by
  obtain ⟨h0, h1, h2, h3, h4, h5⟩ := hs
  have main : fX4_touchUnit n s r (ix i) 1 = (if okI (ix i + ix 1) n then if okI (ix i + ix 2) n then if okI (ix i + ix 0) n then some ((((2 : Int32) * s 1) * r (ix i + ix 1).toNatClampNeg + s 3 * r (ix i + ix 2).toNatClampNeg) + s 5 * r (ix i + ix 0).toNatClampNeg) else none else none else none) := rfl
  rw [main, ix_add, ix_add, ix_add, if_pos (ix_ok (by omega) hn), if_pos (ix_ok (by omega) hn), if_pos (ix_ok (by omega) hn), ix_nat (by omega), ix_nat (by omega), ix_nat (by omega)]
  have e0 : r (i + 0) = Int32.ofInt v.1 := hv.1
  have e1 : r (i + 1) = Int32.ofInt v.2.1 := hv.2.1
  have e2 : r (i + 2) = Int32.ofInt v.2.2 := hv.2.2
  simp only [e0, e1, e2, h0, h1, h2, h3, h4, h5]
  congr 1
  have t2 : (2 : Int32) = Int32.ofInt 2 := rfl
  rw [t2]
  simp only [← Int32.ofInt_add, ← Int32.ofInt_mul]
  congr 1
  simp only [qf_tch, un]
  grind
theorem x4_tu2 {s r : Nat → Int32} {Q : F6} {v : V3} {i n : Nat} (hs : a6 s Q) (hv : av r i v) (hi : i + 2 < n) (hn : n ≤ 2147483647) : fX4_touchUnit n s r (ix i) 2 = some (Int32.ofInt (qf_tch Q v (un 2))) := by
  obtain ⟨h0, h1, h2, h3, h4, h5⟩ := hs
  have main : fX4_touchUnit n s r (ix i) 2 = (if okI (ix i + ix 2) n then if okI (ix i + ix 0) n then if okI (ix i + ix 1) n then some ((((2 : Int32) * s 2) * r (ix i + ix 2).toNatClampNeg + s 4 * r (ix i + ix 0).toNatClampNeg) + s 3 * r (ix i + ix 1).toNatClampNeg) else none else none else none) := rfl
  rw [main, ix_add, ix_add, ix_add, if_pos (ix_ok (by omega) hn), if_pos (ix_ok (by omega) hn), if_pos (ix_ok (by omega) hn), ix_nat (by omega), ix_nat (by omega), ix_nat (by omega)]
  have e0 : r (i + 0) = Int32.ofInt v.1 := hv.1
  have e1 : r (i + 1) = Int32.ofInt v.2.1 := hv.2.1
  have e2 : r (i + 2) = Int32.ofInt v.2.2 := hv.2.2
  simp only [e0, e1, e2, h0, h1, h2, h3, h4, h5]
  congr 1
  have t2 : (2 : Int32) = Int32.ofInt 2 := rfl
  rw [t2]
  simp only [← Int32.ofInt_add, ← Int32.ofInt_mul]
  congr 1
  simp only [qf_tch, un]
  grind
theorem x2_c7_0 {s all : Nat → Int32} {Q : F6} {l : V3} {p i : Nat} (hp : p = 3 ∨ p = 5 ∨ p = 7) (hs : a6 s Q) (hl : av all (3 * i) l) (hi : i ≤ 7) (hT : rI (qf_tch Q l (un 0))) (k45 : Int32 → Option (Int32 × Int32 × (Nat → Int32))) (n : Nat) (v : Int32) : fX2_choose_L7 k45 s all (ix i) (ix p) (n + 1) 0 v = if (p : Int) ∣ qf_tch Q l (un 0) then fX2_choose_L7 k45 s all (ix i) (ix p) n (-1) v else fX2_choose_L7 k45 s all (ix i) (ix p) n (-1) 0 := by
  rw [fX2_choose_L7, if_neg (by decide), ix_3, ix_mul, x4_tu0 hs hl (by omega) (by decide)]
  have hp0 : ¬ ix p = 0 := by rw [ix_0, ix_eq (by omega) (by omega)]; omega
  simp only [bd1, nm_eq]
  rw [if_pos hp0]
  have hd := zi_dvd (a := qf_tch Q l (un 0)) (b := (p : Int)) hT ⟨by omega, by omega⟩ (by omega)
  exact if_cg hd
theorem x2_c7_1 {s all : Nat → Int32} {Q : F6} {l : V3} {p i : Nat} (hp : p = 3 ∨ p = 5 ∨ p = 7) (hs : a6 s Q) (hl : av all (3 * i) l) (hi : i ≤ 7) (hT : rI (qf_tch Q l (un 1))) (k45 : Int32 → Option (Int32 × Int32 × (Nat → Int32))) (n : Nat) (v : Int32) : fX2_choose_L7 k45 s all (ix i) (ix p) (n + 1) 1 v = if (p : Int) ∣ qf_tch Q l (un 1) then fX2_choose_L7 k45 s all (ix i) (ix p) n 0 v else fX2_choose_L7 k45 s all (ix i) (ix p) n 0 1 := by
  rw [fX2_choose_L7, if_neg (by decide), ix_3, ix_mul, x4_tu1 hs hl (by omega) (by decide)]
  have hp0 : ¬ ix p = 0 := by rw [ix_0, ix_eq (by omega) (by omega)]; omega
  simp only [bd1, nm_eq]
  rw [if_pos hp0]
  have hd := zi_dvd (a := qf_tch Q l (un 1)) (b := (p : Int)) hT ⟨by omega, by omega⟩ (by omega)
  exact if_cg hd
theorem x2_c7_2 {s all : Nat → Int32} {Q : F6} {l : V3} {p i : Nat} (hp : p = 3 ∨ p = 5 ∨ p = 7) (hs : a6 s Q) (hl : av all (3 * i) l) (hi : i ≤ 7) (hT : rI (qf_tch Q l (un 2))) (k45 : Int32 → Option (Int32 × Int32 × (Nat → Int32))) (n : Nat) (v : Int32) : fX2_choose_L7 k45 s all (ix i) (ix p) (n + 1) 2 v = if (p : Int) ∣ qf_tch Q l (un 2) then fX2_choose_L7 k45 s all (ix i) (ix p) n 1 v else fX2_choose_L7 k45 s all (ix i) (ix p) n 1 2 := by
  rw [fX2_choose_L7, if_neg (by decide), ix_3, ix_mul, x4_tu2 hs hl (by omega) (by decide)]
  have hp0 : ¬ ix p = 0 := by rw [ix_0, ix_eq (by omega) (by omega)]; omega
  simp only [bd1, nm_eq]
  rw [if_pos hp0]
  have hd := zi_dvd (a := qf_tch Q l (un 2)) (b := (p : Int)) hT ⟨by omega, by omega⟩ (by omega)
  exact if_cg hd
theorem x2_u {s all : Nat → Int32} {Q : F6} {l : V3} {p i u : Nat} (hp : p = 3 ∨ p = 5 ∨ p = 7) (hs : a6 s Q) (hl : av all (3 * i) l) (hi : i ≤ 7) (hT : ∀ k, k < 3 → rI (qf_tch Q l (un k))) (hu : u < 3) (h1 : ¬ (p : Int) ∣ qf_tch Q l (un u)) (h2 : ∀ k, k < u → (p : Int) ∣ qf_tch Q l (un k)) (k45 : Int32 → Option (Int32 × Int32 × (Nat → Int32))) (n : Nat) : fX2_choose_L7 k45 s all (ix i) (ix p) (n + 4) 2 0 = k45 (ix u) := by
  rw [x2_c7_2 hp hs hl hi (hT 2 (by decide)), x2_c7_1 hp hs hl hi (hT 1 (by decide)), x2_c7_1 hp hs hl hi (hT 1 (by decide)), x2_c7_0 hp hs hl hi (hT 0 (by decide)), x2_c7_0 hp hs hl hi (hT 0 (by decide)), x2_c7_0 hp hs hl hi (hT 0 (by decide))]
  have hend : ∀ v, fX2_choose_L7 k45 s all (ix i) (ix p) (n + 1) (-1) v = k45 v := fun v => by rw [fX2_choose_L7, if_pos (by decide)]
  simp only [hend]
  have : u = 0 ∨ u = 1 ∨ u = 2 := by omega
  rcases this with e | e | e <;> subst e
  · simp only [if_neg h1]
    by_cases g2 : (p : Int) ∣ qf_tch Q l (un 2)
    · simp only [if_pos g2]
      by_cases g1 : (p : Int) ∣ qf_tch Q l (un 1)
      · simp only [if_pos g1]; rfl
      · simp only [if_neg g1]; rfl
    · simp only [if_neg g2]
      by_cases g1 : (p : Int) ∣ qf_tch Q l (un 1)
      · simp only [if_pos g1]; rfl
      · simp only [if_neg g1]; rfl
  · simp only [if_neg h1, if_pos (h2 0 (by decide))]
    by_cases g2 : (p : Int) ∣ qf_tch Q l (un 2)
    · simp only [if_pos g2]; rfl
    · simp only [if_neg g2]; rfl
  · simp only [if_neg h1, if_pos (h2 0 (by decide)), if_pos (h2 1 (by decide))]
    rfl
theorem zW_60 {l : V3} {p t u : Nat} (hp : p = 3 ∨ p = 5 ∨ p = 7) (hl : v7 l) (ht : t < p) : v60 (zW l p t u) := by
  have hb := b4_mul (A := 7) (B := 7) (x := (p : Int)) (y := (t : Int)) ⟨by omega, by omega⟩ ⟨by omega, by omega⟩
  have h0 := Int.mul_nonneg (by omega : (0 : Int) ≤ p) (by omega : (0 : Int) ≤ t)
  obtain ⟨h1, h2, h3⟩ := hl
  generalize hk : (p : Int) * t = k at *
  have hu : un u = (1, 0, 0) ∨ un u = (0, 1, 0) ∨ un u = (0, 0, 1) := by
    unfold un
    by_cases g : u = 0
    · left; rw [if_pos g]
    · by_cases g1 : u = 1
      · right; left; rw [if_neg g, if_pos g1]
      · right; right; rw [if_neg g, if_neg g1]
  unfold zW v60
  rw [hk]
  rcases hu with e | e | e <;> rw [e] <;> dsimp only <;> omega
theorem zW_up {w : Nat → Int32} {l : V3} {p s u : Nat} (hu : u < 3) (hw : av w 0 (zW l p s u)) : av (upd w u (w u + ix p)) 0 (zW l p ((s + 1 : Nat) : Int) u) := by
  obtain ⟨g0, g1, g2⟩ := hw
  simp only [Nat.zero_add] at g0 g1 g2
  have hc : ((s + 1 : Nat) : Int) = (s : Int) + 1 := by omega
  have : u = 0 ∨ u = 1 ∨ u = 2 := by omega
  rcases this with e | e | e <;> subst e
  · refine ⟨?_, ?_, ?_⟩
    · rw [upd_s, g0, ix, ← Int32.ofInt_add]
      congr 1
      simp only [zW, un, hc]
      grind
    · rw [upd_n _ _ (by omega)]; simp only [Nat.zero_add]; rw [g1]; simp [zW, un]
    · rw [upd_n _ _ (by omega)]; simp only [Nat.zero_add]; rw [g2]; simp [zW, un]
  · refine ⟨?_, ?_, ?_⟩
    · rw [upd_n _ _ (by omega), g0]; simp [zW, un]
    · simp only [Nat.zero_add]
      rw [upd_s, g1, ix, ← Int32.ofInt_add]
      congr 1
      simp only [zW, un, hc]
      grind
    · rw [upd_n _ _ (by omega)]; simp only [Nat.zero_add]; rw [g2]; simp [zW, un]
  · refine ⟨?_, ?_, ?_⟩
    · rw [upd_n _ _ (by omega), g0]; simp [zW, un]
    · rw [upd_n _ _ (by omega)]; simp only [Nat.zero_add]; rw [g1]; simp [zW, un]
    · simp only [Nat.zero_add]
      rw [upd_s, g2, ix, ← Int32.ofInt_add]
      congr 1
      simp only [zW, un, hc]
      grind
theorem x2_t {six : Nat → Int32} {Q : F6} {l : V3} {p u t : Nat} (hp : p = 3 ∨ p = 5 ∨ p = 7) (hs : a6 six Q) (hq : qs_ Q) (hl : v7 l) (hu : u < 3) (ht : t < p) (h1 : ((p : Int) * p) ∣ qf_val Q (zW l p t u)) (h2 : ∀ s : Nat, s < t → ¬ ((p : Int) * p) ∣ qf_val Q (zW l p s u)) : ∀ (k n s : Nat) (w : Nat → Int32), s + k = t → k + 1 ≤ n → av w 0 (zW l p s u) → ∃ w', fX2_choose_L68 (ix u) (ix p) six n (ix (s + 1)) (ix s) w = some (ix t, ix u, w') ∧ av w' 0 (zW l p t u) := by
  have hpp : ix p * ix p = Int32.ofInt ((p : Int) * p) := by unfold ix; rw [← Int32.ofInt_mul]
  have hb : (p : Int) * p ≤ 49 ∧ 9 ≤ (p : Int) * p := by rcases hp with e | e | e <;> subst e <;> decide
  have hne : ¬ Int32.ofInt ((p : Int) * p) = 0 := by
    have e0 : (0 : Int32) = Int32.ofInt 0 := rfl
    rw [e0, zi_eq ⟨by omega, by omega⟩ ⟨by omega, by omega⟩]; omega
  intro k
  induction k with
  | zero =>
    intro n s w e1 e2 hw
    obtain ⟨n, rfl⟩ : ∃ j, n = j + 1 := ⟨n - 1, by omega⟩
    have e : s = t := by omega
    subst e
    have hval := qs_val hq (zW_60 (u := u) hp hl ht)
    rw [fX2_choose_L68]
    simp only [nm_eq, hpp]
    by_cases g : p ≤ s + 1
    · rw [if_pos (by rw [ix_le (by omega) (by omega)]; exact g)]
      exact ⟨w, rfl, hw⟩
    · have hat : fX4_atRow 3 six w 0 = some (Int32.ofInt (qf_val Q (zW l p s u))) := x4_atRow hs hw (by decide) (by decide)
      rw [if_neg (by rw [ix_le (by omega) (by omega)]; exact g), hat]
      simp only [bd1]
      have hd := zi_dvd (a := qf_val Q (zW l p s u)) (b := (p : Int) * p) ⟨by omega, by omega⟩ ⟨by omega, by omega⟩ (by omega)
      rw [if_pos hne, if_pos (hd.mpr h1)]
      exact ⟨w, rfl, hw⟩
  | succ k ih =>
    intro n s w e1 e2 hw
    obtain ⟨n, rfl⟩ : ∃ j, n = j + 1 := ⟨n - 1, by omega⟩
    have hval := qs_val hq (zW_60 (u := u) (t := s) hp hl (by omega))
    rw [fX2_choose_L68]
    simp only [nm_eq, hpp]
    have hat : fX4_atRow 3 six w 0 = some (Int32.ofInt (qf_val Q (zW l p s u))) := x4_atRow hs hw (by decide) (by decide)
    rw [if_neg (by rw [ix_le (by omega) (by omega)]; omega), hat]
    simp only [bd1]
    have hd := zi_dvd (a := qf_val Q (zW l p s u)) (b := (p : Int) * p) ⟨by omega, by omega⟩ ⟨by omega, by omega⟩ (by omega)
    rw [if_pos hne, if_neg (fun h => h2 s (by omega) (hd.mp h)), if_pos (ix_ok hu (by decide)), if_pos (ix_ok hu (by decide)), ix_nat (by omega), ix_1, ix_add]
    exact ih n (s + 1) _ (by omega) (by omega) (zW_up hu hw)
theorem x2_choose {six all : Nat → Int32} {Q : F6} {l : V3} {p i u t : Nat} (hp : p = 3 ∨ p = 5 ∨ p = 7) (hs : a6 six Q) (hq : qs_ Q) (hall : ∀ (m : Nat) (v : V3), m < 8 → (lns Q p)[m]? = some v → av all (3 * m) v) (hi : i ≤ 7) (h : LN Q p i l u t) (w0 : Nat → Int32) {F : Nat} (hF : 100 ≤ F) : ∃ w', fX2_choose F (ix p) six all w0 (ix i) = some (ix t, ix u, w') ∧ av w' 0 (zW l p t u) ∧ v7 l := by
  obtain ⟨a1, a2, a3, a4, a5, a6', a7⟩ := h
  have hl := hall i l (by omega) a1
  have hm := ptsP_mem (by omega) (lns_mem (List.mem_of_getElem? a1)).1
  have hl7 : v7 l := ⟨by omega, by omega, by omega⟩
  have hun : ∀ k, v60 (un k) := by
    intro k
    unfold un v60
    split
    · decide
    · split <;> decide
  have hT : ∀ k, k < 3 → rI (qf_tch Q l (un k)) := fun k _ => by
    have := qs_tch hq (v := l) (w := un k) ⟨by omega, by omega, by omega⟩ (hun k)
    exact ⟨by omega, by omega⟩
  have hu0 : av (va_cpy all w0 (3 * i) 0 3) 0 (zW l p ((0 : Nat) : Int) u) := by
    obtain ⟨g0, g1, g2⟩ := hl
    refine ⟨?_, ?_, ?_⟩ <;> simp [va_cpy, zW, *]
  obtain ⟨w', e1, e2⟩ := x2_t hp hs hq hl7 a2 a5 a6' a7 t F 0 _ (by omega) (by omega) hu0
  refine ⟨w', ?_, e2, hl7⟩
  obtain ⟨f, rfl⟩ : ∃ f, F = f + 4 := ⟨F - 4, by omega⟩
  unfold fX2_choose
  simp only [nm_eq]
  rw [x2_u hp hs hl hi hT a2 a3 a4, ix_3, ix_mul, if_pos (ix_neg (by omega)), if_pos (by rw [ix_nat (by omega)]; omega), ix_nat (by omega)]
  exact e1
