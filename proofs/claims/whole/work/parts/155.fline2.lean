/-! lines: the reference's findLine, to its end -/
theorem cpv_b {p c : Nat} (hp : p = 3 ∨ p = 5 ∨ p = 7) (h : cp1 p c) : (0 ≤ (cpv p c).1 ∧ (cpv p c).1 ≤ 60) ∧ (0 ≤ (cpv p c).2.1 ∧ (cpv p c).2.1 ≤ 60) ∧ (0 ≤ (cpv p c).2.2 ∧ (cpv p c).2.2 ≤ 60) := by
  have h1 := Nat.mod_lt (c / p) (by omega : p > 0)
  have h2 := Nat.mod_lt c (by omega : p > 0)
  unfold cpv
  dsimp only
  have h3 : c / (p * p) ≤ 1 := by unfold cp1 at h; omega
  omega
theorem f7_L7 {Q : F6} {q : (Nat → Int64)} (hq : al6 q Q) (hs : qs_ Q) {p : Nat} (hp : p = 3 ∨ p = 5 ∨ p = 7) {l : V3} (k161 : (Nat → Int64) → Option (Int32 × Int32 × (Nat → Int64))) : ∀ (k n c j : Nat) (line : (Nat → Int64)), c + k ≤ 1000 → j ≤ 1000 → k + 2 ≤ n → ((cpl p (c + 1) k).filter (fun v => decide (qf_val Q v % (p : Int) = 0)))[j]? = some l → ∃ line', fX7_findLine_L7 (ix p) q k161 n (ix j) (ix c) 0 line = k161 line' ∧ avl line' 0 l := by
  intro k
  induction k with
  | zero =>
    intro n c j line e1 e0 e2 h
    simp [cpl] at h
  | succ k ih =>
    intro n c j line e1 e0 e2 h
    obtain ⟨n, rfl⟩ : ∃ m, n = m + 1 := ⟨n - 1, by omega⟩
    rw [f7_body hp (by omega)]
    rw [cpl_s] at h
    by_cases hc : cp1 p (c + 1)
    · rw [if_pos hc] at h ⊢
      have hb := cpv_b hp hc
      have hval := qs_val hs (v := cpv p (c + 1)) ⟨by omega, by omega, by omega⟩
      rw [l7_val hq]
      simp only [bd1]
      have hd := zl_dvd (a := qf_val Q (cpv p (c + 1))) (b := (p : Int)) ⟨by omega, by omega⟩ ⟨by omega, by omega⟩ (by omega)
      by_cases hv : qf_val Q (cpv p (c + 1)) % (p : Int) = 0
      · rw [if_pos (hd.mpr (Int.dvd_of_emod_eq_zero hv))]
        rw [List.filter_cons_of_pos (by simpa using hv)] at h
        by_cases hj : j = 0
        · subst hj
          rw [if_pos (by rfl)]
          have e : cpv p (c + 1) = l := by simpa using h
          obtain ⟨n, rfl⟩ : ∃ m, n = m + 1 := ⟨n - 1, by omega⟩
          rw [fX7_findLine_L7, if_neg (by decide)]
          exact ⟨_, rfl, by rw [← e]; exact up3_at _ _ _⟩
        · obtain ⟨j', rfl⟩ : ∃ m, j = m + 1 := ⟨j - 1, by omega⟩
          rw [if_neg (by rw [ix_0, ix_eq (by omega) (by omega)]; omega)]
          have e3 : ix (j' + 1) + -1 = ix j' := by
            have em : (-1 : Int32) = Int32.ofInt (-1) := rfl
            rw [em]
            unfold ix
            rw [← Int32.ofInt_add]
            congr 1
            omega
          rw [e3]
          rw [List.getElem?_cons_succ] at h
          exact ih n (c + 1) j' _ (by omega) (by omega) (by omega) h
      · rw [if_neg (fun g => hv (Int.emod_eq_zero_of_dvd (hd.mp g)))]
        rw [List.filter_cons_of_neg (by simpa using hv)] at h
        exact ih n (c + 1) j _ (by omega) e0 (by omega) h
    · rw [if_neg hc] at h ⊢
      exact ih n (c + 1) j _ (by omega) e0 (by omega) h
theorem cpl_pts {p : Nat} (hp : p = 3 ∨ p = 5 ∨ p = 7) : cpl p (0 + 1) (2 * p * p - 1) = ptsP p := by
  rcases hp with e | e | e <;> subst e
  · exact cpl_all.1
  · exact cpl_all.2.1
  · exact cpl_all.2.2
theorem f7_u0 (q line : (Nat → Int64)) (p : Int32) (k250 : Int32 → Option (Int32 × Int32 × (Nat → Int64))) (n : Nat) : fX7_findLine_L166 q line p k250 (n + 1) 0 = bd1 (fX7_touchOf q (line 0) (line 1) (line 2) 1 0 0) (fun r => if ¬ p.toInt64 = 0 then if (r - r / p.toInt64 * p.toInt64) = 0 then fX7_findLine_L166 q line p k250 n 1 else k250 0 else none) := rfl
theorem f7_v0 {Q : F6} {q line : (Nat → Int64)} (hq : al6 q Q) (hs : qs_ Q) {p : Nat} (hp : p = 3 ∨ p = 5 ∨ p = 7) {l : V3} (hl : avl line 0 l) (hl7 : v7 l) (k250 : Int32 → Option (Int32 × Int32 × (Nat → Int64))) (n : Nat) : fX7_findLine_L166 q line (ix p) k250 (n + 1) 0 = if (p : Int) ∣ qf_tch Q l (un 0) then fX7_findLine_L166 q line (ix p) k250 n 1 else k250 0 := by
  obtain ⟨g0, g1, g2⟩ := hl
  simp only [Nat.zero_add] at g0 g1 g2
  have ht := qs_tch hs (v := l) (w := un 0) ⟨by have := hl7.1; omega, by have := hl7.2.1; omega, by have := hl7.2.2; omega⟩ (by simp [v60, un])
  have ht2 : fX7_touchOf q (line 0) (line 1) (line 2) 1 0 0 = some (Int64.ofInt (qf_tch Q l (un 0))) := by
    rw [g0, g1, g2]
    exact l7_tch hq l (un 0)
  have hpl : ¬ Int64.ofInt (p : Int) = 0 := by rw [zl_0, zl_eq ⟨by omega, by omega⟩ ⟨by omega, by omega⟩]; omega
  rw [f7_u0, ht2, ix_wide (by omega)]
  simp only [bd1]
  rw [if_pos hpl]
  exact if_cg (zl_dvd ⟨by omega, by omega⟩ ⟨by omega, by omega⟩ (by omega))
theorem f7_u1 (q line : (Nat → Int64)) (p : Int32) (k250 : Int32 → Option (Int32 × Int32 × (Nat → Int64))) (n : Nat) : fX7_findLine_L166 q line p k250 (n + 1) 1 = bd1 (fX7_touchOf q (line 0) (line 1) (line 2) 0 1 0) (fun r => if ¬ p.toInt64 = 0 then if (r - r / p.toInt64 * p.toInt64) = 0 then fX7_findLine_L166 q line p k250 n 2 else k250 1 else none) := rfl
theorem f7_v1 {Q : F6} {q line : (Nat → Int64)} (hq : al6 q Q) (hs : qs_ Q) {p : Nat} (hp : p = 3 ∨ p = 5 ∨ p = 7) {l : V3} (hl : avl line 0 l) (hl7 : v7 l) (k250 : Int32 → Option (Int32 × Int32 × (Nat → Int64))) (n : Nat) : fX7_findLine_L166 q line (ix p) k250 (n + 1) 1 = if (p : Int) ∣ qf_tch Q l (un 1) then fX7_findLine_L166 q line (ix p) k250 n 2 else k250 1 := by
  obtain ⟨g0, g1, g2⟩ := hl
  simp only [Nat.zero_add] at g0 g1 g2
  have ht := qs_tch hs (v := l) (w := un 1) ⟨by have := hl7.1; omega, by have := hl7.2.1; omega, by have := hl7.2.2; omega⟩ (by simp [v60, un])
  have ht2 : fX7_touchOf q (line 0) (line 1) (line 2) 0 1 0 = some (Int64.ofInt (qf_tch Q l (un 1))) := by
    rw [g0, g1, g2]
    exact l7_tch hq l (un 1)
  have hpl : ¬ Int64.ofInt (p : Int) = 0 := by rw [zl_0, zl_eq ⟨by omega, by omega⟩ ⟨by omega, by omega⟩]; omega
  rw [f7_u1, ht2, ix_wide (by omega)]
  simp only [bd1]
  rw [if_pos hpl]
  exact if_cg (zl_dvd ⟨by omega, by omega⟩ ⟨by omega, by omega⟩ (by omega))
theorem f7_u2 (q line : (Nat → Int64)) (p : Int32) (k250 : Int32 → Option (Int32 × Int32 × (Nat → Int64))) (n : Nat) : fX7_findLine_L166 q line p k250 (n + 1) 2 = bd1 (fX7_touchOf q (line 0) (line 1) (line 2) 0 0 1) (fun r => if ¬ p.toInt64 = 0 then if (r - r / p.toInt64 * p.toInt64) = 0 then fX7_findLine_L166 q line p k250 n 3 else k250 2 else none) := rfl
theorem f7_v2 {Q : F6} {q line : (Nat → Int64)} (hq : al6 q Q) (hs : qs_ Q) {p : Nat} (hp : p = 3 ∨ p = 5 ∨ p = 7) {l : V3} (hl : avl line 0 l) (hl7 : v7 l) (k250 : Int32 → Option (Int32 × Int32 × (Nat → Int64))) (n : Nat) : fX7_findLine_L166 q line (ix p) k250 (n + 1) 2 = if (p : Int) ∣ qf_tch Q l (un 2) then fX7_findLine_L166 q line (ix p) k250 n 3 else k250 2 := by
  obtain ⟨g0, g1, g2⟩ := hl
  simp only [Nat.zero_add] at g0 g1 g2
  have ht := qs_tch hs (v := l) (w := un 2) ⟨by have := hl7.1; omega, by have := hl7.2.1; omega, by have := hl7.2.2; omega⟩ (by simp [v60, un])
  have ht2 : fX7_touchOf q (line 0) (line 1) (line 2) 0 0 1 = some (Int64.ofInt (qf_tch Q l (un 2))) := by
    rw [g0, g1, g2]
    exact l7_tch hq l (un 2)
  have hpl : ¬ Int64.ofInt (p : Int) = 0 := by rw [zl_0, zl_eq ⟨by omega, by omega⟩ ⟨by omega, by omega⟩]; omega
  rw [f7_u2, ht2, ix_wide (by omega)]
  simp only [bd1]
  rw [if_pos hpl]
  exact if_cg (zl_dvd ⟨by omega, by omega⟩ ⟨by omega, by omega⟩ (by omega))
theorem f7_u {Q : F6} {q line : (Nat → Int64)} (hq : al6 q Q) (hs : qs_ Q) {p u : Nat} (hp : p = 3 ∨ p = 5 ∨ p = 7) {l : V3} (hl : avl line 0 l) (hl7 : v7 l) (hu : u < 3) (h1 : ¬ (p : Int) ∣ qf_tch Q l (un u)) (h2 : ∀ k, k < u → (p : Int) ∣ qf_tch Q l (un k)) (k250 : Int32 → Option (Int32 × Int32 × (Nat → Int64))) (n : Nat) : fX7_findLine_L166 q line (ix p) k250 (n + 3) 0 = k250 (ix u) := by
  have : u = 0 ∨ u = 1 ∨ u = 2 := by omega
  rcases this with e | e | e <;> subst e
  · rw [f7_v0 hq hs hp hl hl7, if_neg h1]; rfl
  · rw [f7_v0 hq hs hp hl hl7, if_pos (h2 0 (by decide)), f7_v1 hq hs hp hl hl7, if_neg h1]; rfl
  · rw [f7_v0 hq hs hp hl hl7, if_pos (h2 0 (by decide)), f7_v1 hq hs hp hl hl7, if_pos (h2 1 (by decide)), f7_v2 hq hs hp hl hl7, if_neg h1]; rfl
/-- the row w -/
theorem l7_lined {line : (Nat → Int64)} {l : V3} (hl : avl line 0 l) {p u t : Nat} (hp : p = 3 ∨ p = 5 ∨ p = 7) (hu : u < 3) (ht : t ≤ 1000) : fX7_lined (ix p) (ix t) (ix u) line 0 = some (Int64.ofInt (zW l p t u).1) ∧ fX7_lined (ix p) (ix t) (ix u) line 1 = some (Int64.ofInt (zW l p t u).2.1) ∧ fX7_lined (ix p) (ix t) (ix u) line 2 = some (Int64.ofInt (zW l p t u).2.2) := by
  obtain ⟨g0, g1, g2⟩ := hl
  simp only [Nat.zero_add] at g0 g1 g2
  have m0 : ∀ x, fX7_lined (ix p) (ix t) x line 0 = some (line 0 + (if (0 : Int32) = x then (ix p).toInt64 * (ix t).toInt64 else 0)) := fun x => by
    unfold fX7_lined
    rw [if_pos (by decide)]
    simp only [nm_eq]
    split <;> rfl
  have m1 : ∀ x, fX7_lined (ix p) (ix t) x line 1 = some (line 1 + (if (1 : Int32) = x then (ix p).toInt64 * (ix t).toInt64 else 0)) := fun x => by
    unfold fX7_lined
    rw [if_pos (by decide)]
    simp only [nm_eq]
    split <;> rfl
  have m2 : ∀ x, fX7_lined (ix p) (ix t) x line 2 = some (line 2 + (if (2 : Int32) = x then (ix p).toInt64 * (ix t).toInt64 else 0)) := fun x => by
    unfold fX7_lined
    rw [if_pos (by decide)]
    simp only [nm_eq]
    split <;> rfl
  rw [m0, m1, m2, g0, g1, g2, ix_wide (by omega), ix_wide (by omega), ← Int64.ofInt_mul]
  have z0 : (0 : Int64) = Int64.ofInt 0 := rfl
  have : u = 0 ∨ u = 1 ∨ u = 2 := by omega
  rcases this with e | e | e <;> subst e
  · rw [if_pos (by decide), if_neg (by decide), if_neg (by decide), z0, ← Int64.ofInt_add, ← Int64.ofInt_add, ← Int64.ofInt_add]
    refine ⟨?_, ?_, ?_⟩ <;> simp only [zW, un] <;> congr 2 <;> grind
  · rw [if_neg (by decide), if_pos (by decide), if_neg (by decide), z0, ← Int64.ofInt_add, ← Int64.ofInt_add, ← Int64.ofInt_add]
    refine ⟨?_, ?_, ?_⟩ <;> simp only [zW, un] <;> congr 2 <;> grind
  · rw [if_neg (by decide), if_neg (by decide), if_pos (by decide), z0, ← Int64.ofInt_add, ← Int64.ofInt_add, ← Int64.ofInt_add]
    refine ⟨?_, ?_, ?_⟩ <;> simp only [zW, un] <;> congr 2 <;> grind
theorem f7_t {Q : F6} {q line : (Nat → Int64)} (hq : al6 q Q) (hs : qs_ Q) {p u t : Nat} (hp : p = 3 ∨ p = 5 ∨ p = 7) {l : V3} (hl : avl line 0 l) (hl7 : v7 l) (hu : u < 3) (ht : t < p) (h1 : ((p : Int) * p) ∣ qf_val Q (zW l p t u)) (h2 : ∀ s : Nat, s < t → ¬ ((p : Int) * p) ∣ qf_val Q (zW l p s u)) : ∀ (k n s : Nat), s + k = t → k + 1 ≤ n → fX7_findLine_L255 (ix p) (ix u) line q n (ix s) = some (ix t, ix u, line) := by
  have hpp : ix p * ix p = ix (p * p) := ix_mul p p
  have hb : p * p ≤ 49 ∧ 9 ≤ p * p := by rcases hp with e | e | e <;> subst e <;> decide
  have hcast : ((p * p : Nat) : Int) = (p : Int) * p := by rw [Int.natCast_mul]
  have hne : ¬ Int64.ofInt ((p * p : Nat) : Int) = 0 := by rw [zl_0, zl_eq ⟨by omega, by omega⟩ ⟨by omega, by omega⟩]; omega
  intro k
  induction k with
  | zero =>
    intro n s e1 e2
    obtain ⟨n, rfl⟩ : ∃ m, n = m + 1 := ⟨n - 1, by omega⟩
    have e : s = t := by omega
    subst e
    have hval := qs_val hs (zW_60 (u := u) hp hl7 ht)
    obtain ⟨d0, d1, d2⟩ := l7_lined hl hp hu (t := s) (by omega)
    rw [fX7_findLine_L255, d0, d1, d2]
    simp only [bd1]
    rw [l7_val hq, hpp, ix_wide (by omega)]
    simp only [nm_eq]
    rw [if_pos hne, if_pos ((zl_dvd ⟨by omega, by omega⟩ ⟨by omega, by omega⟩ (by omega)).mpr (by rw [hcast]; exact h1))]
  | succ k ih =>
    intro n s e1 e2
    obtain ⟨n, rfl⟩ : ∃ m, n = m + 1 := ⟨n - 1, by omega⟩
    have hval := qs_val hs (zW_60 (u := u) (t := s) hp hl7 (by omega))
    obtain ⟨d0, d1, d2⟩ := l7_lined hl hp hu (t := s) (by omega)
    rw [fX7_findLine_L255, d0, d1, d2]
    simp only [bd1]
    rw [l7_val hq, hpp, ix_wide (by omega)]
    simp only [nm_eq]
    rw [if_pos hne, if_neg (fun g => h2 s (by omega) (by rw [← hcast]; exact (zl_dvd ⟨by omega, by omega⟩ ⟨by omega, by omega⟩ (by omega)).mp g)), ix_1, ix_add]
    exact ih n (s + 1) (by omega) (by omega)
theorem f7_0 (fu : Nat) (p : Int32) (q line : (Nat → Int64)) (i : Int32) : fX7_findLine fu p q line i = fX7_findLine_L7 p q (fun line_22 => fX7_findLine_L166 q line_22 p (fun u => fX7_findLine_L255 p u line_22 q fu 0) fu 0) fu i 0 0 line := rfl
theorem l7_findLine {Q : F6} {q : (Nat → Int64)} (hq : al6 q Q) (hs : qs_ Q) {p i u t : Nat} (hp : p = 3 ∨ p = 5 ∨ p = 7) {l : V3} (hi : i ≤ 7) (h : LN Q p i l u t) (line : (Nat → Int64)) {F : Nat} (hF : 1000 ≤ F) : ∃ line', fX7_findLine F (ix p) q line (ix i) = some (ix t, ix u, line') ∧ avl line' 0 l ∧ v7 l := by
  obtain ⟨a1, a2, a3, a4, a5, a6', a7⟩ := h
  have hm := ptsP_mem (by omega) (lns_mem (List.mem_of_getElem? a1)).1
  have hl7 : v7 l := ⟨by omega, by omega, by omega⟩
  have hpp : p * p ≤ 49 := by rcases hp with e | e | e <;> subst e <;> decide
  have hpp2 : 2 * p * p = 2 * (p * p) := by rw [Nat.mul_assoc]
  obtain ⟨line', e1, h1⟩ := f7_L7 hq hs hp (l := l) (fun line_22 => fX7_findLine_L166 q line_22 (ix p) (fun u => fX7_findLine_L255 (ix p) u line_22 q F 0) F 0) (2 * p * p - 1) F 0 i line (by omega) (by omega) (by omega) (by rw [cpl_pts hp]; exact a1)
  refine ⟨line', ?_, h1, hl7⟩
  have e1' : fX7_findLine_L7 (ix p) q (fun line_22 => fX7_findLine_L166 q line_22 (ix p) (fun u => fX7_findLine_L255 (ix p) u line_22 q F 0) F 0) F (ix i) 0 0 line = _ := e1
  rw [f7_0, e1']
  obtain ⟨f, rfl⟩ : ∃ f, F = f + 3 := ⟨F - 3, by omega⟩
  rw [f7_u hq hs hp h1 hl7 a2 a3 a4]
  exact f7_t hq hs hp h1 hl7 a2 a5 a6' a7 t (f + 3) 0 (by omega) (by omega)
