/-! places by numbers from 0 on; what the class reckons of six numbers -/
def ix (m : Nat) : Int32 := Int32.ofInt (m : Int)
theorem ix_add (a b : Nat) : ix a + ix b = ix (a + b) := by unfold ix; rw [← Int32.ofInt_add]; rfl
theorem ix_mul (a b : Nat) : ix a * ix b = ix (a * b) := by unfold ix; rw [← Int32.ofInt_mul, Int.natCast_mul]
theorem ix_ok {a n : Nat} (h : a < n) (hn : n ≤ 2147483647) : okI (ix a) n := zi_ok (by omega) (by omega) hn
theorem ix_nat {a : Nat} (h : a ≤ 2147483647) : (ix a).toNatClampNeg = a := by unfold ix; rw [zi_nat ⟨by omega, by omega⟩]; rfl
theorem ix_le {a b : Nat} (ha : a ≤ 2147483647) (hb : b ≤ 2147483647) : ix a ≤ ix b ↔ a ≤ b := by unfold ix; rw [zi_le ⟨by omega, by omega⟩ ⟨by omega, by omega⟩]; omega
theorem ix_lt {a b : Nat} (ha : a ≤ 2147483647) (hb : b ≤ 2147483647) : ix a < ix b ↔ a < b := by unfold ix; rw [zi_lt ⟨by omega, by omega⟩ ⟨by omega, by omega⟩]; omega
theorem ix_eq {a b : Nat} (ha : a ≤ 2147483647) (hb : b ≤ 2147483647) : ix a = ix b ↔ a = b := by unfold ix; rw [zi_eq ⟨by omega, by omega⟩ ⟨by omega, by omega⟩]; omega
theorem ix_0 : (0 : Int32) = ix 0 := rfl
theorem ix_1 : (1 : Int32) = ix 1 := rfl
theorem ix_2 : (2 : Int32) = ix 2 := rfl
theorem ix_3 : (3 : Int32) = ix 3 := rfl
theorem ix_6 : (6 : Int32) = ix 6 := rfl
theorem ix_9 : (9 : Int32) = ix 9 := rfl
theorem ix_27 : (27 : Int32) = ix 27 := rfl
theorem ix_neg {a : Nat} (h : a ≤ 2147483647) : ¬ ix a < 0 := by rw [ix_0, ix_lt h (by decide)]; omega
/-- a row at a place -/
def av (r : Nat → Int32) (i : Nat) (v : V3) : Prop := r i = Int32.ofInt v.1 ∧ r (i + 1) = Int32.ofInt v.2.1 ∧ r (i + 2) = Int32.ofInt v.2.2
theorem x4_at {s : Nat → Int32} {q : F6} (hs : a6 s q) (v : V3) : fX4_at s (Int32.ofInt v.1) (Int32.ofInt v.2.1) (Int32.ofInt v.2.2) = some (Int32.ofInt (qf_val q v)) := by
  obtain ⟨h0, h1, h2, h3, h4, h5⟩ := hs
  unfold fX4_at
  simp only [nm_eq, h0, h1, h2, h3, h4, h5, qf_val, Int32.ofInt_add, Int32.ofInt_mul]
  congr 1
  grind
theorem x4_atRow {s r : Nat → Int32} {q : F6} {v : V3} {i n : Nat} (hs : a6 s q) (hv : av r i v) (hi : i + 2 < n) (hn : n ≤ 2147483647) : fX4_atRow n s r (ix i) = some (Int32.ofInt (qf_val q v)) := by
  unfold fX4_atRow
  simp only [nm_eq, ix_1, ix_2, ix_add]
  rw [if_pos (ix_ok (by omega) hn), if_pos (ix_ok (by omega) hn), if_pos (ix_ok (by omega) hn), ix_nat (by omega), ix_nat (by omega), ix_nat (by omega), hv.1, hv.2.1, hv.2.2, x4_at hs v]
  rfl
theorem x4_touch {s r : Nat → Int32} {q : F6} {v w : V3} {i j n : Nat} (hs : a6 s q) (hv : av r i v) (hw : av r j w) (hi : i + 2 < n) (hj : j + 2 < n) (hn : n ≤ 2147483647) : fX4_touch n s r (ix i) (ix j) = some (Int32.ofInt (qf_tch q v w)) := by
  obtain ⟨h0, h1, h2, h3, h4, h5⟩ := hs
  unfold fX4_touch
  simp only [nm_eq, ix_1, ix_2, ix_add]
  rw [if_pos (ix_ok (by omega) hn), if_pos (ix_ok (by omega) hn), if_pos (ix_ok (by omega) hn), if_pos (ix_ok (by omega) hn), if_pos (ix_ok (by omega) hn), if_pos (ix_ok (by omega) hn)]
  rw [ix_nat (a := i) (by omega), ix_nat (a := i + 1) (by omega), ix_nat (a := i + 2) (by omega), ix_nat (a := j) (by omega), ix_nat (a := j + 1) (by omega), ix_nat (a := j + 2) (by omega), hv.1, hv.2.1, hv.2.2, hw.1, hw.2.1, hw.2.2, h0, h1, h2, h3, h4, h5, ← ix_2]
  simp only [qf_tch, Int32.ofInt_add, Int32.ofInt_mul]
  congr 1
  have e2 : Int32.ofInt 2 = 2 := rfl
  rw [e2]
  grind
theorem x6_det {x : Int} (hx : rI x) : (nm (fun (s_12 : Int32) => if s_12 = 0 ∨ s_12 = 1 then some s_12 else none) (fun (k98 : (Int32) → Option (Int32)) => nm ((k98 (1 : Int32))) (fun (k93 : Option (Int32)) => if Int32.ofInt x = (1 : Int32) then ((k93)) else (if Int32.ofInt x = (-1 : Int32) then ((k93)) else ((k98 (0 : Int32))))))) = some (if x = 1 ∨ x = -1 then 1 else 0) := by
  have e1 : (1 : Int32) = Int32.ofInt 1 := rfl
  have em : (-1 : Int32) = Int32.ofInt (-1) := rfl
  have k1 : Int32.ofInt x = (1 : Int32) ↔ x = 1 := by rw [e1, zi_eq hx ⟨by omega, by omega⟩]
  have k2 : Int32.ofInt x = (-1 : Int32) ↔ x = -1 := by rw [em, zi_eq hx ⟨by omega, by omega⟩]
  simp only [nm_eq, k1, k2]
  by_cases h1 : x = 1
  · simp [h1]
  · by_cases h2 : x = -1
    · simp [h2]
    · simp [h1, h2]
theorem x6_areTable {r : Nat → Int32} {u v w : V3} {i j k n : Nat} (hu : av r i u) (hv : av r j v) (hw : av r k w) (hi : i + 2 < n) (hj : j + 2 < n) (hk : k + 2 < n) (hn : n ≤ 2147483647) (hr : rI (qf_det (u, v, w))) : fX6_areTable n r (ix i) (ix j) (ix k) = some (if qf_det (u, v, w) = 1 ∨ qf_det (u, v, w) = -1 then 1 else 0) := by
  rw [← x6_det hr]
  unfold fX6_areTable
  simp only [nm_eq, ix_1, ix_2, ix_add]
  rw [if_pos (ix_ok (by omega) hn), if_pos (ix_ok (by omega) hn), if_pos (ix_ok (by omega) hn), if_pos (ix_ok (by omega) hn), if_pos (ix_ok (by omega) hn), if_pos (ix_ok (by omega) hn), if_pos (ix_ok (by omega) hn), if_pos (ix_ok (by omega) hn), if_pos (ix_ok (by omega) hn), if_pos (ix_ok (by omega) hn), if_pos (ix_ok (by omega) hn), if_pos (ix_ok (by omega) hn), if_pos (ix_ok (by omega) hn), if_pos (ix_ok (by omega) hn), if_pos (ix_ok (by omega) hn)]
  rw [ix_nat (a := i) (by omega), ix_nat (a := i + 1) (by omega), ix_nat (a := i + 2) (by omega), ix_nat (a := j) (by omega), ix_nat (a := j + 1) (by omega), ix_nat (a := j + 2) (by omega), ix_nat (a := k) (by omega), ix_nat (a := k + 1) (by omega), ix_nat (a := k + 2) (by omega), hu.1, hu.2.1, hu.2.2, hv.1, hv.2.1, hv.2.2, hw.1, hw.2.1, hw.2.2]
  simp only [qf_det, Int32.ofInt_add, Int32.ofInt_mul, Int32.ofInt_sub]
