/-! the reference's settle by whole numbers, to its end -/
def stp (c : Nat) (s : (Nat → V3) × Bool) (r : Nat) : (Nat → V3) × Bool := (elr c r s.1, s.2 || decide (col c (elr c r s.1 r) ≠ 0))
def fl_ (b : Bool) : Int32 := if b = true then 1 else 0
theorem col_vsub (c : Nat) (v w : V3) (t : Int) : col c (vsub v w t) = col c v - t * col c w := by
  unfold col vsub
  split
  · rfl
  · split <;> rfl
theorem elr_col {c r : Nat} {R : Nat → V3} (hb : ∀ i, i < 4 → -1000000 ≤ col c (R i) ∧ col c (R i) ≤ 1000000) (hc : c < 4) (hr : r < 4) (h0 : col c (R c) ≠ 0) : ∀ i, i < 4 → -1000000 ≤ col c (elr c r R i) ∧ col c (elr c r R i) ≤ 1000000 := by
  intro i hi
  unfold elr
  by_cases e : i = r
  · rw [if_pos e, col_vsub]
    have h1 := hb r hr
    have h2 := hb c hc
    generalize col c (R r) = x at *
    generalize col c (R c) = y at *
    have e1 : x - x.tdiv y * y = x.tmod y := by rw [Int.tmod_def, Int.mul_comm]
    rw [e1]
    have h3 := Int.natAbs_tmod x y
    have h4 : x.natAbs % y.natAbs < y.natAbs := Nat.mod_lt _ (by omega)
    omega
  · rw [if_neg e]
    exact hb i hi
theorem st_153 {c : Nat} (hc : c < 3) (k259 : Int32 → (Nat → Int64) → Option (Nat → Int64)) {F : Nat} (hF : 100 ≤ F) : ∀ (k n r : Nat) (m : Nat → Int64) (R : Nat → V3) (more : Bool), r + k = 4 → c < r → k + 1 ≤ n → am m R → (∀ i, i < 4 → -1000000 ≤ col c (R i) ∧ col c (R i) ≤ 1000000) → col c (R c) ≠ 0 → ∃ m', fX7_settle_L153 k259 (ix c) F n (fl_ more) (ix r) m = k259 (fl_ ((List.range' r k).foldl (stp c) (R, more)).2) m' ∧ am m' ((List.range' r k).foldl (stp c) (R, more)).1 := by
  have e4 : (4 : Int32) = ix 4 := rfl
  obtain ⟨f, rfl⟩ : ∃ f, F = f + 4 := ⟨F - 4, by omega⟩
  intro k
  induction k with
  | zero =>
    intro n r m R more e1 e0 e2 hm hb h0
    obtain ⟨n, rfl⟩ : ∃ j, n = j + 1 := ⟨n - 1, by omega⟩
    rw [fX7_settle_L153, if_pos (by rw [e4, ix_le (by omega) (by omega)]; omega)]
    exact ⟨m, rfl, hm⟩
  | succ k ih =>
    intro n r m R more e1 e0 e2 hm hb h0
    obtain ⟨n, rfl⟩ : ∃ j, n = j + 1 := ⟨n - 1, by omega⟩
    have h1 := hb r (by omega)
    have h2 := hb c (by omega)
    have hne : ¬ Int64.ofInt (col c (R c)) = 0 := by rw [zl_0, zl_eq ⟨by omega, by omega⟩ ⟨by omega, by omega⟩]; exact h0
    have hb' := elr_col hb (by omega) (by omega : r < 4) h0
    have hcc : elr c r R c = R c := by unfold elr; rw [if_neg (by omega)]
    rw [List.range'_succ, List.foldl_cons]
    rw [fX7_settle_L153, if_neg (by rw [e4, ix_le (by omega) (by omega)]; omega)]
    simp only [nm_eq, ix_1, ix_3, ix_mul, ix_add]
    rw [if_pos (ix_ok (by omega) (by decide)), if_pos (ix_ok (by omega) (by decide))]
    simp only [ix_nat (a := 3 * r + c) (by omega), ix_nat (a := 3 * c + c) (by omega), am_col hm (by omega : r < 4) hc, am_col hm (by omega : c < 4) hc]
    rw [if_pos hne, zl_div ⟨by omega, by omega⟩ ⟨by omega, by omega⟩]
    obtain ⟨m', f1, f2⟩ := st_186 hm (by omega : r < 4) hc (by omega : r ≠ c) ((col c (R r)).tdiv (col c (R c))) (fun makers_40 => if fl_ more = 0 then (if okI (ix (3 * r + c)) 12 then if makers_40 (3 * r + c) = 0 then fX7_settle_L153 k259 (ix c) (f + 4) n 0 (ix (r + 1)) makers_40 else fX7_settle_L153 k259 (ix c) (f + 4) n (ix 1) (ix (r + 1)) makers_40 else none) else fX7_settle_L153 k259 (ix c) (f + 4) n (ix 1) (ix (r + 1)) makers_40) f
    rw [f1]
    have f2' : am m' (elr c r R) := f2
    have hv := am_col f2' (by omega : r < 4) hc
    have h3 := hb' r (by omega)
    have hz : m' (3 * r + c) = 0 ↔ col c (elr c r R r) = 0 := by rw [hv, zl_0, zl_eq ⟨by omega, by omega⟩ ⟨by omega, by omega⟩]
    have es : stp c (R, more) r = (elr c r R, more || decide (col c (elr c r R r) ≠ 0)) := rfl
    rw [es]
    have go := ih n (r + 1) m' (elr c r R) (more || decide (col c (elr c r R r) ≠ 0)) (by omega) (by omega) (by omega) f2' hb' (by rw [hcc]; exact h0)
    cases more with
    | true =>
      have ef : ¬ fl_ true = 0 := by decide
      simp only [if_neg ef]
      exact go
    | false =>
      have ef : fl_ false = 0 := rfl
      simp only [if_pos ef]
      rw [if_pos (ix_ok (by omega) (by decide))]
      by_cases g : col c (elr c r R r) = 0
      · rw [if_pos (hz.mpr g)]
        have eb : (false || decide (col c (elr c r R r) ≠ 0)) = false := by simp [g]
        rw [eb] at go ⊢
        exact go
      · rw [if_neg (fun t => g (hz.mp t))]
        have eb : (false || decide (col c (elr c r R r) ≠ 0)) = true := by simp [g]
        rw [eb] at go ⊢
        exact go
def fcI (x : Int) : Int := match x with
  | .ofNat n => .ofNat n
  | .negSucc n => .negSucc n
theorem fcI_eq (x : Int) : fcI x = x := by cases x <;> rfl
def fcV (v : V3) : V3 := (fcI v.1, fcI v.2.1, fcI v.2.2)
theorem fcV_eq (v : V3) : fcV v = v := by unfold fcV; simp only [fcI_eq]
def mat (R : Nat → V3) : Nat → V3 := tup4 (fcV (R 0)) (fcV (R 1)) (fcV (R 2)) (fcV (R 3))
theorem mat_am {m : Nat → Int64} {R : Nat → V3} (h : am m R) : am m (mat R) := by
  intro r hr
  have : r = 0 ∨ r = 1 ∨ r = 2 ∨ r = 3 := by omega
  unfold mat tup4
  simp only [fcV_eq]
  rcases this with e | e | e | e <;> subst e
  · exact h 0 (by decide)
  · exact h 1 (by decide)
  · exact h 2 (by decide)
  · exact h 3 (by decide)
def lp (c : Nat) : Nat → (Nat → V3) → Option (Nat → V3)
  | 0, _ => none
  | n + 1, R => if smR R = true then
      (if (List.range' c (4 - c)).foldl (bo c R) (-1) < 0 then none else
        (if col c (swp ((List.range' c (4 - c)).foldl (bo c R) (-1)).toNat c R c) = 0 then none else
          (if ((List.range' (c + 1) (3 - c)).foldl (stp c) (swp ((List.range' c (4 - c)).foldl (bo c R) (-1)).toNat c R, false)).2 = true then lp c n (mat ((List.range' (c + 1) (3 - c)).foldl (stp c) (swp ((List.range' c (4 - c)).foldl (bo c R) (-1)).toNat c R, false)).1)
            else some (mat ((List.range' (c + 1) (3 - c)).foldl (stp c) (swp ((List.range' c (4 - c)).foldl (bo c R) (-1)).toNat c R, false)).1))))
      else none
theorem st_9 {c : Nat} (hc : c < 3) (k262 : (Nat → Int64) → Option (Nat → Int64)) {F : Nat} (hF : 100 ≤ F) : ∀ (n n' : Nat) (m : Nat → Int64) (R R' : Nat → V3), lp c n R = some R' → am m R → n + 1 ≤ n' → ∃ m', fX7_settle_L9 k262 (ix c) F n' 1 m = k262 m' ∧ am m' R' := by
  intro n
  induction n with
  | zero => intro n' m R R' h; simp [lp] at h
  | succ n ih =>
    intro n' m R R' h hm hn
    obtain ⟨n', rfl⟩ : ∃ j, n' = j + 1 := ⟨n' - 1, by omega⟩
    rw [lp] at h
    by_cases h1 : smR R = true
    · rw [if_pos h1] at h
      by_cases h2 : (List.range' c (4 - c)).foldl (bo c R) (-1) < 0
      · rw [if_pos h2] at h; cases h
      · rw [if_neg h2] at h
        by_cases h3 : col c (swp ((List.range' c (4 - c)).foldl (bo c R) (-1)).toNat c R c) = 0
        · rw [if_pos h3] at h; cases h
        · rw [if_neg h3] at h
          obtain ⟨a, e1, e2, e3⟩ := st_18 hm h1 hc (fun x3 => fX7_settle_L86 (fun m24 => fX7_settle_L153 (fun x2 m45 => fX7_settle_L9 k262 (ix c) F n' x2 m45) (ix c) F F 0 (ix (c + 1)) m24) x3 (ix c) F 0 m) (4 - c) F c (-1) (by omega) (by omega) (Or.inl rfl)
          rw [← e2] at h h2 h3
          have ha : 0 ≤ a ∧ a < 4 := by omega
          have ea : Int32.ofInt a = ix a.toNat := by unfold ix; congr 1; omega
          obtain ⟨f, rfl⟩ : ∃ f, F = f + 4 := ⟨F - 4, by omega⟩
          obtain ⟨m1, f1, f2⟩ := st_86 hm (by omega : a.toNat < 4) hc (fun m24 => fX7_settle_L153 (fun x2 m45 => fX7_settle_L9 k262 (ix c) (f + 4) n' x2 m45) (ix c) (f + 4) (f + 4) 0 (ix (c + 1)) m24) f
          have hb : ∀ i, i < 4 → -1000000 ≤ col c (swp a.toNat c R i) ∧ col c (swp a.toNat c R i) ≤ 1000000 := by
            intro i hi
            unfold swp
            split
            · exact smR_b h1 (by omega) c
            · split
              · exact smR_b h1 (by omega) c
              · exact smR_b h1 hi c
          obtain ⟨m2, g1, g2⟩ := st_153 hc (fun x2 m45 => fX7_settle_L9 k262 (ix c) (f + 4) n' x2 m45) hF (3 - c) (f + 4) (c + 1) m1 _ false (by omega) (by omega) (by omega) f2 hb h3
          have main : fX7_settle_L9 k262 (ix c) (f + 4) (n' + 1) 1 m = fX7_settle_L9 k262 (ix c) (f + 4) n' (fl_ ((List.range' (c + 1) (3 - c)).foldl (stp c) (swp a.toNat c R, false)).2) m2 := by
            rw [fX7_settle_L9, if_neg (by decide)]
            simp only [nm_eq, ix_1, ix_add]
            have em : -ix 1 = Int32.ofInt (-1) := rfl
            rw [em]
            refine e1.trans ?_
            rw [ea]
            exact f1.trans g1
          rw [main]
          by_cases h4 : ((List.range' (c + 1) (3 - c)).foldl (stp c) (swp a.toNat c R, false)).2 = true
          · rw [if_pos h4] at h
            rw [h4]
            exact ih n' m2 _ R' h (mat_am g2) (by omega)
          · rw [if_neg h4] at h
            have h5 : ((List.range' (c + 1) (3 - c)).foldl (stp c) (swp a.toNat c R, false)).2 = false := by simpa using h4
            rw [h5]
            obtain ⟨n', rfl⟩ : ∃ j, n' = j + 1 := ⟨n' - 1, by omega⟩
            rw [fX7_settle_L9, if_pos (by rfl)]
            have := Option.some.inj h
            rw [← this]
            exact ⟨m2, rfl, mat_am g2⟩
    · rw [if_neg h1] at h; cases h
def stl (R : Nat → V3) : Option (Nat → V3) := (lp 0 60 R).bind (fun R0 => (lp 1 60 R0).bind (fun R1 => lp 2 60 R1))
theorem st_2 (F n : Nat) (m : Nat → Int64) : fX7_settle_L2 F (n + 1) 0 m = fX7_settle_L9 (fun m46 => fX7_settle_L2 F n 1 m46) 0 F F 1 m ∧ fX7_settle_L2 F (n + 1) 1 m = fX7_settle_L9 (fun m46 => fX7_settle_L2 F n 2 m46) 1 F F 1 m ∧ fX7_settle_L2 F (n + 1) 2 m = fX7_settle_L9 (fun m46 => fX7_settle_L2 F n 3 m46) 2 F F 1 m ∧ fX7_settle_L2 F (n + 1) 3 m = some m := ⟨rfl, rfl, rfl, rfl⟩
theorem l7_settle {m : Nat → Int64} {R R' : Nat → V3} (hm : am m R) (h : stl R = some R') {F : Nat} (hF : 100 ≤ F) : ∃ m', fX7_settle F m = some m' ∧ am m' R' := by
  unfold stl at h
  obtain ⟨R0, h0, h⟩ := Option.bind_eq_some_iff.mp h
  obtain ⟨R1, h1, h2⟩ := Option.bind_eq_some_iff.mp h
  have e0 : fX7_settle F m = fX7_settle_L2 F F 0 m := rfl
  obtain ⟨f, rfl⟩ : ∃ f, F = f + 4 := ⟨F - 4, by omega⟩
  obtain ⟨m0, a1, a2⟩ := st_9 (c := 0) (by decide) (fun m46 => fX7_settle_L2 (f + 4) (f + 3) 1 m46) hF 60 (f + 4) m R R0 h0 hm (by omega)
  obtain ⟨m1, b1, b2⟩ := st_9 (c := 1) (by decide) (fun m46 => fX7_settle_L2 (f + 4) (f + 2) 2 m46) hF 60 (f + 4) m0 R0 R1 h1 a2 (by omega)
  obtain ⟨m2, c1, c2⟩ := st_9 (c := 2) (by decide) (fun m46 => fX7_settle_L2 (f + 4) (f + 1) 3 m46) hF 60 (f + 4) m1 R1 R' h2 b2 (by omega)
  refine ⟨m2, ?_, c2⟩
  rw [e0, (st_2 _ _ _).1]
  refine a1.trans ?_
  rw [(st_2 _ _ _).2.1]
  refine b1.trans ?_
  rw [(st_2 _ _ _).2.2.1]
  refine c1.trans ?_
  rw [(st_2 _ _ _).2.2.2]
