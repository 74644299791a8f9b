/-! kin: the class's sizeOfKin -/
theorem bd6_s {a b c d e g R : Type} (x1 : a) (x2 : b) (x3 : c) (x4 : d) (x5 : e) (x6 : g) (f : a → b → c → d → e → g → Option R) : bd6 (some (x1, x2, x3, x4, x5, x6)) f = f x1 x2 x3 x4 x5 x6 := rfl
theorem x6_L46 {D : Int} (hD : D ≤ 6912) {p : Nat} (hp : p = 3 ∨ p = 5 ∨ p = 7) (hdv : ¬ (p : Int) ∣ D) {box : Nat → Int32} (hbx : bxA box) {F : Nat} (hF : 1000000 ≤ F) {R : Int32 → Int32 → Int32 → (Nat → Int32) → Int32 → Int32 → Int32 → Int32 → (Nat → Int32) → (Nat → Int32) → (Nat → Int32) → (Nat → Int32) → (Nat → Int32) → Int32 → (Nat → Int32) → (Nat → Int32) → (Nat → Int32) → (Nat → Int32) → (Nat → Int32) → (Nat → Int32) → (Nat → Nat → Int32) → (Nat → Nat → Int32) → Option (Int32 × (Int32) × (Int32) × (Int32) × (Nat → Int32) × (Int32) × (Int32) × (Int32) × (Int32) × (Nat → Int32) × (Nat → Int32) × (Nat → Int32) × (Nat → Int32) × (Nat → Int32) × (Int32) × (Nat → Int32) × (Nat → Int32) × (Nat → Int32) × (Nat → Int32) × (Nat → Int32) × (Nat → Int32) × (Nat → Nat → Int32) × (Nat → Nat → Int32))} : ∀ (k n fr : Nat) (K : KS) (size : Int32) (many : Int32) (tu : Nat → Int32) (fo : Int32) (lp : Int32) (lt : Int32) (lu : Int32) (six : Nat → Int32) (all : Nat → Int32) (w : Nat → Int32) (b : Nat → Int32) (c : Nat → Int32) (ti : Int32) (s : Nat → Int32) (r : Nat → Int32) (wo : Nat → Int32) (im : Nat → Int32) (be : Nat → Int32) (br : Nat → Int32) (mem : Nat → Nat → Int32) (path : Nat → Nat → Int32), fr + k = 16 → k + 1 ≤ n → Kg D K → CK K size many tu mem path → ∃ size' many' tu' fo' lp' lt' lu' six' all' w' b' c' ti' s' r' wo' im' be' br' mem' path', fX6_sizeOfKin_L46 R (ix p) F box n (ix fr) size many tu fo lp lt lu six all w b c ti s r wo im be br mem path = R size' many' (ix p) tu' fo' lp' lt' lu' six' all' w' b' c' ti' s' r' wo' im' be' br' mem' path' ∧ CK (krun p k fr K) size' many' tu' mem' path' ∧ Kg D (krun p k fr K) := by
  have e16 : (16 : Int32) = ix 16 := rfl
  intro k
  induction k with
  | zero =>
    intro n fr K size many tu fo lp lt lu six all w b c ti s r wo im be br mem path e1 e2 hg hc
    obtain ⟨n, rfl⟩ : ∃ m, n = m + 1 := ⟨n - 1, by omega⟩
    refine ⟨size, many, tu, fo, lp, lt, lu, six, all, w, b, c, ti, s, r, wo, im, be, br, mem, path, ?_, hc, hg⟩
    rw [fX6_sizeOfKin_L46, if_pos (by rw [e16, ix_le (by decide) (by omega)]; omega)]
  | succ k ih =>
    intro n fr K size many tu fo lp lt lu six all w b c ti s r wo im be br mem path e1 e2 hg hc
    obtain ⟨n, rfl⟩ : ∃ m, n = m + 1 := ⟨n - 1, by omega⟩
    have hl := hg.2.1
    rw [fX6_sizeOfKin_L46, if_neg (by rw [e16, ix_le (by decide) (by omega)]; omega), krun]
    by_cases g1 : K.1.length ≤ fr
    · rw [if_pos g1]
      refine ⟨size, many, tu, fo, lp, lt, lu, six, all, w, b, c, ti, s, r, wo, im, be, br, mem, path, ?_, hc, hg⟩
      rw [if_pos (by rw [hc.1, ix_le (by omega) (by omega)]; exact g1)]
    · rw [if_neg g1, if_neg (by rw [hc.1, ix_le (by omega) (by omega)]; exact g1)]
      by_cases g2 : K.2.2 = true
      · rw [if_pos g2]
        refine ⟨size, many, tu, fo, lp, lt, lu, six, all, w, b, c, ti, s, r, wo, im, be, br, mem, path, ?_, hc, hg⟩
        rw [if_neg (by rw [hc.2.1, if_pos g2]; decide)]
      · rw [if_neg g2, if_pos (by rw [hc.2.1, if_neg g2])]
        obtain ⟨size1, many1, tu1, fo1, lt1, lu1, six1, all1, w1, b1, c1, ti1, s1, r1, wo1, im1, be1, br1, mem1, path1, f1, f2, f3⟩ := x0_visit hD hp hdv hg (fr := fr) (by omega) hbx hc lt lu six all w b c ti s r wo im be br hF
        rw [f1]
        show ∃ size' many' tu' fo' lp' lt' lu' six' all' w' b' c' ti' s' r' wo' im' be' br' mem' path', fX6_sizeOfKin_L46 R (ix p) F box n (ix fr + 1) size1 many1 tu1 fo1 (ix p) lt1 lu1 six1 all1 w1 b1 c1 ti1 s1 r1 wo1 im1 be1 br1 mem1 path1 = R size' many' (ix p) tu' fo' lp' lt' lu' six' all' w' b' c' ti' s' r' wo' im' be' br' mem' path' ∧ CK (krun p k (fr + 1) (kvis p fr (p + 1) 0 K)) size' many' tu' mem' path' ∧ Kg D (krun p k (fr + 1) (kvis p fr (p + 1) 0 K))
        rw [ix_1, ix_add]
        exact ih n (fr + 1) (kvis p fr (p + 1) 0 K) size1 many1 tu1 fo1 (ix p) lt1 lu1 six1 all1 w1 b1 c1 ti1 s1 r1 wo1 im1 be1 br1 mem1 path1 (by omega) (by omega) f3 f2
/-- what sizeOfKin answers, where P does not go into DISC -/
def kA (K : KS) : Int32 := if K.2.2 = true then -100005 else ix K.1.length
/-- what the family of a form holds -/
def FI (D : Int) (L : F6) (n : Nat) (size many by_ : Int32) (tu : Nat → Int32) (mem path : Nat → Nat → Int32) : Prop := by_ = 0 ∨ ∃ p : Nat, (p = 3 ∨ p = 5 ∨ p = 7) ∧ by_ = ix p ∧ ¬ (p : Int) ∣ D ∧ CK (kinOf p L n) size many tu mem path ∧ Kg D (kinOf p L n)
theorem x0_begin {tu : Nat → Int32} {mem path : Nat → Nat → Int32} {fl : Nat → Int32} {L : F6} (hl : a6 fl L) (n : Nat) (p : Int32) {F : Nat} (hF : 100 ≤ F) : ∃ tu' mem' path', fX0_begin F tu (ix n) fl mem path p = some (ix 1, 0, p, tu', mem', path') ∧ CK ([(L, n)], fun _ _ => 0, false) (ix 1) 0 tu' mem' path' := by
  obtain ⟨tu', mem', path', f1, f2, f3, f4⟩ := x0_wel (K := ([], fun _ _ => 0, false)) (tu := tu) (mem := mem) (path := path) (by intro i x hx; simp at hx) (by decide) hl n hF
  refine ⟨tu', mem', path', ?_, rfl, rfl, f2, ?_⟩
  · unfold fX0_begin
    have f1' : fX0_welcome F 0 tu fl mem path (ix n) = some (ix 0, ix 1, tu', mem', path') := f1
    rw [f1', bd5_s]
  · intro i j hi hj
    have hi' : i < 1 := hi
    have e : i = 0 := by omega
    subst e
    exact f4 j hj
theorem x6_goes {D : Int} (hD : 0 ≤ D ∧ D ≤ 6912) {p : Nat} (hp : p = 3 ∨ p = 5 ∨ p = 7) {k : Int32} (hk : okI k 12) : fX6_goesIntoDisc (ix p) (Int32.ofInt D) k = some (if (p : Int) ∣ D then 1 else 0) := by
  have h0 : ¬ ix p = 0 := by rw [ix_0, ix_eq (by omega) (by omega)]; omega
  have h1 := Int.emod_nonneg D (show (p : Int) ≠ 0 by omega)
  have h2 := Int.emod_lt_of_pos D (show (0 : Int) < p by omega)
  unfold fX6_goesIntoDisc
  rw [if_pos hk, if_pos h0]
  simp only [nm_eq]
  have e : Int32.ofInt D - Int32.ofInt D / ix p * ix p = Int32.ofInt (D % (p : Int)) := by
    unfold ix
    rw [zi_rem ⟨by omega, by omega⟩ ⟨by omega, by omega⟩, Int.tmod_eq_emod_of_nonneg hD.1]
  have z : (0 : Int32) = Int32.ofInt 0 := rfl
  rw [e]
  by_cases g : (p : Int) ∣ D
  · rw [if_pos (by rw [Int.emod_eq_zero_of_dvd g]; rfl), if_pos g]
    rfl
  · rw [if_neg (by rw [z, zi_eq ⟨by omega, by omega⟩ ⟨by omega, by omega⟩]; exact fun t => g (Int.dvd_of_emod_eq_zero t)), if_neg g]
    rfl
theorem x6_sizeOfKin {D : Int} (hD : 0 ≤ D ∧ D ≤ 6912) {L : F6} {n : Nat} (hS : qr_S L ∧ qf_pd L ∧ qf_disc L = D ∧ n ∣ 48 ∧ 0 < n) {p : Nat} (hp : p = 3 ∨ p = 5 ∨ p = 7) {k : Int32} (hk : okI k 12) {fl : Nat → Int32} (hl : a6 fl L) {box : Nat → Int32} (hbx : bxA box) (size : Int32) (many : Int32) (by_ : Int32) (tu : Nat → Int32) (fo : Int32) (lp : Int32) (lt : Int32) (lu : Int32) (six : Nat → Int32) (all : Nat → Int32) (w : Nat → Int32) (b : Nat → Int32) (c : Nat → Int32) (ti : Int32) (s : Nat → Int32) (r : Nat → Int32) (wo : Nat → Int32) (im : Nat → Int32) (be : Nat → Int32) (br : Nat → Int32) (mem : Nat → Nat → Int32) (path : Nat → Nat → Int32) (hI : FI D L n size many by_ tu mem path) {F : Nat} (hF : 1000000 ≤ F) : ∃ ans size' many' by_' tu' fo' lp' lt' lu' six' all' w' b' c' ti' s' r' wo' im' be' br' mem' path', fX6_sizeOfKin F (ix p) (Int32.ofInt D) (ix n) fl size many by_ tu fo lp lt lu six all w b c ti s r box wo im be br mem path k = some (ans, size', many', by_', tu', fo', lp', lt', lu', six', all', w', b', c', ti', s', r', wo', im', be', br', mem', path') ∧ FI D L n size' many' by_' tu' mem' path' ∧ ((p : Int) ∣ D → ans = -100003) ∧ (¬ (p : Int) ∣ D → ans = kA (kinOf p L n) ∧ CK (kinOf p L n) size' many' tu' mem' path' ∧ Kg D (kinOf p L n)) := by
  unfold fX6_sizeOfKin
  rw [x6_goes hD hp hk, bd1_s]
  by_cases g : (p : Int) ∣ D
  · rw [if_pos g, if_neg (by decide)]
    exact ⟨_, size, many, by_, tu, fo, lp, lt, lu, six, all, w, b, c, ti, s, r, wo, im, be, br, mem, path, rfl, hI, fun _ => rfl, fun h => absurd g h⟩
  · rw [if_neg g, if_pos rfl, if_pos hk]
    simp only [nm_eq]
    have fin : ∀ (size : Int32) (many : Int32) (by_ : Int32) (tu : Nat → Int32) (fo : Int32) (lp : Int32) (lt : Int32) (lu : Int32) (six : Nat → Int32) (all : Nat → Int32) (w : Nat → Int32) (b : Nat → Int32) (c : Nat → Int32) (ti : Int32) (s : Nat → Int32) (r : Nat → Int32) (wo : Nat → Int32) (im : Nat → Int32) (be : Nat → Int32) (br : Nat → Int32) (mem : Nat → Nat → Int32) (path : Nat → Nat → Int32), CK (kinOf p L n) size many tu mem path → (if many = 0 then some (size, size, many, by_, tu, fo, lp, lt, lu, six, all, w, b, c, ti, s, r, wo, im, be, br, mem, path) else some ((-100005 : Int32), size, many, by_, tu, fo, lp, lt, lu, six, all, w, b, c, ti, s, r, wo, im, be, br, mem, path)) = some (kA (kinOf p L n), size, many, by_, tu, fo, lp, lt, lu, six, all, w, b, c, ti, s, r, wo, im, be, br, mem, path) := by
      intro size many by_ tu fo lp lt lu six all w b c ti s r wo im be br mem path hc
      rw [hc.2.1]
      unfold kA
      by_cases g2 : (kinOf p L n).2.2 = true
      · rw [if_pos g2, if_neg (by decide), if_pos g2]
      · rw [if_neg g2, if_pos rfl, if_neg g2, hc.1]
    by_cases gb : by_ = ix p
    · rw [if_pos gb]
      obtain h0 | ⟨p', hp', e1, e2, e3, e4⟩ := hI
      · exfalso
        rw [gb, ix_0, ix_eq (by omega) (by omega)] at h0
        omega
      · have epp : p' = p := by
          rw [gb, ix_eq (by omega) (by omega)] at e1
          omega
        subst epp
        exact ⟨_, size, many, by_, tu, fo, lp, lt, lu, six, all, w, b, c, ti, s, r, wo, im, be, br, mem, path, fin _ _ _ _ _ _ _ _ _ _ _ _ _ _ _ _ _ _ _ _ _ _ e3, Or.inr ⟨p', hp', e1, e2, e3, e4⟩, fun h => absurd h g, fun _ => ⟨rfl, e3, e4⟩⟩
    · rw [if_neg gb]
      obtain ⟨tu1, mem1, path1, f1, f2⟩ := x0_begin (tu := tu) (mem := mem) (path := path) hl n (ix p) (show 100 ≤ F by omega)
      rw [f1, bd6_s]
      have hg : Kg D ([(L, n)], fun _ _ => 0, false) := by
        refine ⟨by simp, by simp, ?_, fun _ _ _ => rfl⟩
        intro x hx
        have e : x = (L, n) := by simpa using hx
        rw [e]
        exact hS
      obtain ⟨size2, many2, tu2, fo2, lp2, lt2, lu2, six2, all2, w2, b2, c2, ti2, s2, r2, wo2, im2, be2, br2, mem2, path2, h1, h2, h3⟩ := x6_L46 hD.2 hp g hbx hF (R := fun size many by_ tu fo lp lt lu six all w b c ti s r wo im be br mem path => if many = 0 then some (size, size, many, by_, tu, fo, lp, lt, lu, six, all, w, b, c, ti, s, r, wo, im, be, br, mem, path) else some ((-100005 : Int32), size, many, by_, tu, fo, lp, lt, lu, six, all, w, b, c, ti, s, r, wo, im, be, br, mem, path)) 16 F 0 ([(L, n)], fun _ _ => 0, false) (ix 1) 0 tu1 fo lp lt lu six all w b c ti s r wo im be br mem1 path1 (by omega) (by omega) hg f2
      have h1' := h1
      rw [← ix_0] at h1'
      rw [h1']
      exact ⟨_, size2, many2, ix p, tu2, fo2, lp2, lt2, lu2, six2, all2, w2, b2, c2, ti2, s2, r2, wo2, im2, be2, br2, mem2, path2, fin _ _ _ _ _ _ _ _ _ _ _ _ _ _ _ _ _ _ _ _ _ _ h2, Or.inr ⟨p, hp, rfl, g, h2, h3⟩, fun h => absurd h g, fun _ => ⟨rfl, h2, h3⟩⟩
