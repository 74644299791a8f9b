/-! the reference: rows in a box, in their order; findApart -/
def iv : Nat → Int → List Int
  | 0, _ => []
  | n + 1, z => z :: iv n (z + 1)
theorem iv_mem : ∀ (n : Nat) (z x : Int), x ∈ iv n z ↔ z ≤ x ∧ x < z + n
  | 0, z, x => by simp only [iv, List.not_mem_nil, false_iff]; omega
  | n + 1, z, x => by
    rw [iv, List.mem_cons, iv_mem n (z + 1) x]
    omega
theorem iv_nd : ∀ (n : Nat) (z : Int), (iv n z).Nodup
  | 0, z => List.Pairwise.nil
  | n + 1, z => by
    rw [iv]
    refine List.nodup_cons.mpr ⟨fun h => ?_, iv_nd n (z + 1)⟩
    rw [iv_mem] at h
    omega
def pz (x y : Int) (n : Nat) (z : Int) : List V3 := (iv n z).map (fun z => (x, y, z))
def py (rz : Int) (x : Int) (n : Nat) (y : Int) : List V3 := (iv n y).flatMap (fun y => pz x y (2 * rz + 1).toNat (-rz))
def px (ry rz : Int) (n : Nat) (x : Int) : List V3 := (iv n x).flatMap (fun x => py rz x (2 * ry + 1).toNat (-ry))
theorem pz_s (x y : Int) (n : Nat) (z : Int) : pz x y (n + 1) z = (x, y, z) :: pz x y n (z + 1) := rfl
theorem py_s (rz x : Int) (n : Nat) (y : Int) : py rz x (n + 1) y = pz x y (2 * rz + 1).toNat (-rz) ++ py rz x n (y + 1) := by unfold py; rw [iv, List.flatMap_cons]
theorem px_s (ry rz : Int) (n : Nat) (x : Int) : px ry rz (n + 1) x = py rz x (2 * ry + 1).toNat (-ry) ++ px ry rz n (x + 1) := by unfold px; rw [iv, List.flatMap_cons]
def pts (rx ry rz : Int) : List V3 := px ry rz (2 * rx + 1).toNat (-rx)
theorem pts_mem {rx ry rz : Int} (hx : 0 ≤ rx) (hy : 0 ≤ ry) (hz : 0 ≤ rz) (v : V3) : v ∈ pts rx ry rz ↔ (-rx ≤ v.1 ∧ v.1 ≤ rx) ∧ (-ry ≤ v.2.1 ∧ v.2.1 ≤ ry) ∧ (-rz ≤ v.2.2 ∧ v.2.2 ≤ rz) := by
  unfold pts px py pz
  simp only [List.mem_flatMap, List.mem_map, iv_mem]
  constructor
  · rintro ⟨x, hx', y, hy', z, hz', e⟩
    subst e
    simp only
    omega
  · rintro ⟨h1, h2, h3⟩
    exact ⟨v.1, by omega, v.2.1, by omega, v.2.2, by omega, rfl⟩
theorem pts_nd (rx ry rz : Int) : (pts rx ry rz).Nodup := by
  have hz : ∀ x y n z, (pz x y n z).Nodup := fun x y n z => nd_map (fun a b e => by simp only [Prod.mk.injEq] at e; exact e.2.2) (iv_nd n z)
  have mz : ∀ x y n z v, v ∈ pz x y n z → v.1 = x ∧ v.2.1 = y := by
    intro x y n z v hv
    obtain ⟨a, _, e⟩ := List.mem_map.mp hv
    rw [← e]
    exact ⟨rfl, rfl⟩
  have my : ∀ x n y v, v ∈ py rz x n y → v.1 = x := by
    intro x n y v hv
    obtain ⟨a, _, h⟩ := List.mem_flatMap.mp hv
    exact (mz _ _ _ _ _ h).1
  have hy : ∀ x n y, (py rz x n y).Nodup := by
    intro x n y
    refine List.pairwise_flatMap.mpr ⟨fun y _ => hz _ _ _ _, List.Pairwise.imp (fun {a b} hab u hu w hw e => ?_) (iv_nd n y)⟩
    have h1 := (mz _ _ _ _ _ hu).2
    have h2 := (mz _ _ _ _ _ hw).2
    rw [e, h2] at h1
    exact hab h1.symm
  refine List.pairwise_flatMap.mpr ⟨fun x _ => hy _ _ _, List.Pairwise.imp (fun {a b} hab u hu w hw e => ?_) (iv_nd _ _)⟩
  have h1 := my _ _ _ _ hu
  have h2 := my _ _ _ _ hw
  rw [e, h2] at h1
  exact hab h1.symm
theorem zl_0 : (0 : Int64) = Int64.ofInt 0 := rfl
theorem zl_1 : (1 : Int64) = Int64.ofInt 1 := rfl
/-- a row in longs at a place -/
def avl (r : Nat → Int64) (i : Nat) (v : V3) : Prop := r i = Int64.ofInt v.1 ∧ r (i + 1) = Int64.ofInt v.2.1 ∧ r (i + 2) = Int64.ofInt v.2.2
def up3 (r : Nat → Int64) (i : Nat) (x y z : Int64) : Nat → Int64 := vp_updL (vp_updL (vp_updL r i x) (i + 1) y) (i + 2) z
theorem up3_at (r : Nat → Int64) (i : Nat) (v : V3) : avl (up3 r i (Int64.ofInt v.1) (Int64.ofInt v.2.1) (Int64.ofInt v.2.2)) i v := by
  refine ⟨?_, ?_, ?_⟩ <;> simp [up3, vp_updL]
theorem up3_ne (r : Nat → Int64) (i : Nat) (x y z : Int64) {k : Nat} (h : k < i ∨ i + 2 < k) : up3 r i x y z k = r k := by
  have h1 : k ≠ i := by omega
  have h2 : k ≠ i + 1 := by omega
  have h3 : k ≠ i + 2 := by omega
  simp [up3, vp_updL, h1, h2, h3]
/-- what findApart has behind the rows vis -/
def fa_I (Q : F6) (N : Int) (m : Nat) (ap : V3 → Bool) (low : (Nat → Int64) → Prop) (vis : List V3) (best : Int64) (rows : Nat → Int64) : Prop := low rows ∧ ((best = Int64.ofInt (-1) ∧ ∀ v ∈ vis, ap v = true → ¬ qf_val Q v ≤ N) ∨ ∃ v0 ∈ vis, ap v0 = true ∧ qf_val Q v0 ≤ N ∧ best = Int64.ofInt (qf_val Q v0) ∧ avl rows (3 * m) v0 ∧ ∀ v ∈ vis, ap v = true → qf_val Q v0 ≤ qf_val Q v)
def fa_C (Q : F6) (N : Int) (m : Nat) (ap : V3 → Bool) (low : (Nat → Int64) → Prop) (q : Nat → Int64) : Prop := al6 q Q ∧ rL N ∧ (m < 3 ∧ ∀ w : V3, 0 ≤ qf_val Q w) ∧ (∀ v : V3, (-40000 ≤ v.1 ∧ v.1 ≤ 40000) → (-40000 ≤ v.2.1 ∧ v.2.1 ≤ 40000) → (-40000 ≤ v.2.2 ∧ v.2.2 ≤ 40000) → (0 ≤ qf_val Q v ∧ qf_val Q v ≤ 1000000000000000) ∧ ∀ rows, low rows → fX7_isApart rows (ix m) (Int64.ofInt v.1) (Int64.ofInt v.2.1) (Int64.ofInt v.2.2) = some (if ap v = true then 1 else 0)) ∧ ∀ rows x y z, low rows → low (up3 rows (3 * m) x y z)
theorem fa_body {Q : F6} {N : Int} {m : Nat} {ap : V3 → Bool} {low : (Nat → Int64) → Prop} {q : Nat → Int64} (hC : fa_C Q N m ap low q) {v : V3} (h1 : -40000 ≤ v.1 ∧ v.1 ≤ 40000) (h2 : -40000 ≤ v.2.1 ∧ v.2.1 ≤ 40000) (h3 : -40000 ≤ v.2.2 ∧ v.2.2 ≤ 40000) {R : Type} (k154 : Int64 → (Nat → Int64) → Option R) {vis : List V3} {best : Int64} {rows : Nat → Int64} (hI : fa_I Q N m ap low vis best rows) : ∃ b' r', (if Int64.ofInt N < Int64.ofInt (qf_val Q v) then ((k154 best rows)) else (if best < (0) then ((bd1 (fX7_isApart rows (ix m) (Int64.ofInt v.1) (Int64.ofInt v.2.1) (Int64.ofInt v.2.2)) (fun (r_17) => if r_17 = 0 then ((k154 best rows)) else (if okI (ix (3 * m)) 9 then (if okI (ix (3 * m + 1)) 9 then (if okI (ix (3 * m + 2)) 9 then (k154 (Int64.ofInt (qf_val Q v)) (up3 rows (3 * m) (Int64.ofInt v.1) (Int64.ofInt v.2.1) (Int64.ofInt v.2.2))) else none) else none) else none)))) else (if best ≤ Int64.ofInt (qf_val Q v) then ((k154 best rows)) else ((bd1 (fX7_isApart rows (ix m) (Int64.ofInt v.1) (Int64.ofInt v.2.1) (Int64.ofInt v.2.2)) (fun (r_17) => if r_17 = 0 then ((k154 best rows)) else (if okI (ix (3 * m)) 9 then (if okI (ix (3 * m + 1)) 9 then (if okI (ix (3 * m + 2)) 9 then (k154 (Int64.ofInt (qf_val Q v)) (up3 rows (3 * m) (Int64.ofInt v.1) (Int64.ofInt v.2.1) (Int64.ofInt v.2.2))) else none) else none) else none))))))) = k154 b' r' ∧ fa_I Q N m ap low (vis ++ [v]) b' r' := by
  obtain ⟨hq, hN, ⟨hm, hnn⟩, hv, hlow⟩ := hC
  obtain ⟨⟨v0, v1⟩, hap⟩ := hv v h1 h2 h3
  have hlt : Int64.ofInt N < Int64.ofInt (qf_val Q v) ↔ N < qf_val Q v := zl_lt hN ⟨by omega, by omega⟩
  obtain ⟨hl, hI⟩ := hI
  rw [hap rows hl]
  simp only [bd1]
  rw [if_pos (ix_ok (by omega) (by decide)), if_pos (ix_ok (by omega) (by decide)), if_pos (ix_ok (by omega) (by decide))]
  -- nothing changes
  have keep : (ap v = true → qf_val Q v ≤ N → ∃ w ∈ vis, ap w = true ∧ qf_val Q w ≤ N ∧ best = Int64.ofInt (qf_val Q w) ∧ avl rows (3 * m) w ∧ (∀ u ∈ vis, ap u = true → qf_val Q w ≤ qf_val Q u) ∧ qf_val Q w ≤ qf_val Q v) → fa_I Q N m ap low (vis ++ [v]) best rows := by
    intro h
    refine ⟨hl, ?_⟩
    by_cases hh : ap v = true ∧ qf_val Q v ≤ N
    · obtain ⟨w, w1, w2, w3, w4, w5, w6, w7⟩ := h hh.1 hh.2
      refine Or.inr ⟨w, List.mem_append_left _ w1, w2, w3, w4, w5, fun u hu hau => ?_⟩
      rcases List.mem_append.mp hu with hu | hu
      · exact w6 u hu hau
      · rw [List.mem_singleton.mp hu]; exact w7
    · rcases hI with ⟨i1, i2⟩ | ⟨w, w1, w2, w3, w4, w5, w6⟩
      · refine Or.inl ⟨i1, fun u hu hau => ?_⟩
        rcases List.mem_append.mp hu with hu | hu
        · exact i2 u hu hau
        · rw [List.mem_singleton.mp hu] at hau ⊢
          exact fun g => hh ⟨hau, g⟩
      · refine Or.inr ⟨w, List.mem_append_left _ w1, w2, w3, w4, w5, fun u hu hau => ?_⟩
        rcases List.mem_append.mp hu with hu | hu
        · exact w6 u hu hau
        · rw [List.mem_singleton.mp hu] at hau ⊢
          have : ¬ qf_val Q v ≤ N := fun g => hh ⟨hau, g⟩
          omega
  have news : ap v = true → qf_val Q v ≤ N → (∀ u ∈ vis, ap u = true → qf_val Q v ≤ qf_val Q u) → fa_I Q N m ap low (vis ++ [v]) (Int64.ofInt (qf_val Q v)) (up3 rows (3 * m) (Int64.ofInt v.1) (Int64.ofInt v.2.1) (Int64.ofInt v.2.2)) := by
    intro g1 g2 g3
    refine ⟨hlow _ _ _ _ hl, Or.inr ⟨v, List.mem_append_right _ List.mem_cons_self, g1, g2, rfl, up3_at rows (3 * m) v, fun u hu hau => ?_⟩⟩
    rcases List.mem_append.mp hu with hu | hu
    · exact g3 u hu hau
    · rw [List.mem_singleton.mp hu]; exact Int.le_refl _
  by_cases c1 : N < qf_val Q v
  · rw [if_pos (hlt.mpr c1)]
    exact ⟨_, _, rfl, keep (fun _ g => by omega)⟩
  · rw [if_neg (fun g => c1 (hlt.mp g))]
    rcases hI with ⟨i1, i2⟩ | ⟨w, w1, w2, w3, w4, w5, w6⟩
    · rw [if_pos (by rw [i1]; decide)]
      by_cases c2 : ap v = true
      · rw [if_pos c2, if_neg (by decide)]
        refine ⟨_, _, rfl, news c2 (by omega) (fun u hu hau => ?_)⟩
        have := i2 u hu hau
        omega
      · rw [if_neg c2, if_pos rfl]
        exact ⟨_, _, rfl, keep (fun g => absurd g c2)⟩
    · have hw := hnn w
      have rw9 : rL (qf_val Q w) := ⟨by omega, by have := hN.2; omega⟩
      rw [if_neg (by rw [w4, zl_0, zl_lt rw9 ⟨by omega, by omega⟩]; omega)]
      have hle : best ≤ Int64.ofInt (qf_val Q v) ↔ qf_val Q w ≤ qf_val Q v := by rw [w4, zl_le rw9 ⟨by omega, by omega⟩]
      by_cases c4 : qf_val Q w ≤ qf_val Q v
      · rw [if_pos (hle.mpr c4)]
        exact ⟨_, _, rfl, keep (fun _ _ => ⟨w, w1, w2, w3, w4, w5, w6, c4⟩)⟩
      · rw [if_neg (fun g => c4 (hle.mp g))]
        by_cases c2 : ap v = true
        · rw [if_pos c2, if_neg (by decide)]
          refine ⟨_, _, rfl, news c2 (by omega) (fun u hu hau => ?_)⟩
          have := w6 u hu hau
          omega
        · rw [if_neg c2, if_pos rfl]
          exact ⟨_, _, rfl, keep (fun g => absurd g c2)⟩
theorem fa_z {Q : F6} {N : Int} {m : Nat} {ap : V3 → Bool} {low : (Nat → Int64) → Prop} {q : Nat → Int64} (hC : fa_C Q N m ap low q) {x y r3 : Int} (h1 : -40000 ≤ x ∧ x ≤ 40000) (h2 : -40000 ≤ y ∧ y ≤ 40000) (h3 : r3 ≤ 40000) (k163 : Int64 → (Nat → Int64) → Option (Int64 × (Nat → Int64))) : ∀ (k n : Nat) (z : Int) (vis : List V3) (best : Int64) (rows : Nat → Int64), z + k = r3 + 1 → -40000 ≤ z → k + 1 ≤ n → fa_I Q N m ap low vis best rows → ∃ b' r', fX7_findApart_L60 (Int64.ofInt r3) k163 q (Int64.ofInt x) (Int64.ofInt y) (Int64.ofInt N) (ix m) n best (Int64.ofInt z) rows = k163 b' r' ∧ fa_I Q N m ap low (vis ++ pz x y k z) b' r' := by
  intro k
  induction k with
  | zero =>
    intro n z vis best rows e1 e2 e3 hI
    obtain ⟨n, rfl⟩ : ∃ j, n = j + 1 := ⟨n - 1, by omega⟩
    rw [fX7_findApart_L60, if_pos (by rw [zl_lt ⟨by omega, by omega⟩ ⟨by omega, by omega⟩]; omega)]
    exact ⟨_, _, rfl, by simpa [pz, iv] using hI⟩
  | succ k ih =>
    intro n z vis best rows e1 e2 e3 hI
    obtain ⟨n, rfl⟩ : ∃ j, n = j + 1 := ⟨n - 1, by omega⟩
    have hm := hC.2.2.1.1
    have hC' := hC
    obtain ⟨b', r', g1, g2⟩ := fa_body hC' (v := (x, y, z)) h1 h2 ⟨e2, by simp only; omega⟩ (fun b r => fX7_findApart_L60 (Int64.ofInt r3) k163 q (Int64.ofInt x) (Int64.ofInt y) (Int64.ofInt N) (ix m) n b (Int64.ofInt (z + 1)) r) hI
    obtain ⟨b2, r2, g3, g4⟩ := ih n (z + 1) (vis ++ [(x, y, z)]) b' r' (by omega) (by omega) (by omega) g2
    refine ⟨b2, r2, ?_, ?_⟩
    · rw [fX7_findApart_L60, if_neg (by rw [zl_lt ⟨by omega, by omega⟩ ⟨by omega, by omega⟩]; omega)]
      have hv := l7_val hC.1 (x, y, z)
      simp only at hv
      rw [hv]
      simp only [bd1, nm_eq, zl_1, ix_1, ix_2, ix_3, ix_mul, ix_add]
      simp only [← Int64.ofInt_add]
      simp only [ix_nat (a := 3 * m) (by omega), ix_nat (a := 3 * m + 1) (by omega), ix_nat (a := 3 * m + 2) (by omega)]
      exact (g1.trans g3)
    · rw [pz_s]
      rw [List.append_assoc] at g4
      exact g4
theorem fa_y {Q : F6} {N : Int} {m : Nat} {ap : V3 → Bool} {low : (Nat → Int64) → Prop} {q : Nat → Int64} (hC : fa_C Q N m ap low q) {x r2 r3 : Int} (h1 : -40000 ≤ x ∧ x ≤ 40000) (h2 : r2 ≤ 40000) (h3 : 0 ≤ r3 ∧ r3 ≤ 40000) (k172 : Int64 → (Nat → Int64) → Option (Int64 × (Nat → Int64))) {F : Nat} (hF : 100000 ≤ F) : ∀ (k n : Nat) (y : Int) (vis : List V3) (best : Int64) (rows : Nat → Int64), y + k = r2 + 1 → -40000 ≤ y → k + 1 ≤ n → fa_I Q N m ap low vis best rows → ∃ b' r', fX7_findApart_L47 (Int64.ofInt r2) k172 (Int64.ofInt r3) q (Int64.ofInt x) (Int64.ofInt N) (ix m) F n best (Int64.ofInt y) rows = k172 b' r' ∧ fa_I Q N m ap low (vis ++ py r3 x k y) b' r' := by
  intro k
  induction k with
  | zero =>
    intro n y vis best rows e1 e2 e3 hI
    obtain ⟨n, rfl⟩ : ∃ j, n = j + 1 := ⟨n - 1, by omega⟩
    rw [fX7_findApart_L47, if_pos (by rw [zl_lt ⟨by omega, by omega⟩ ⟨by omega, by omega⟩]; omega)]
    exact ⟨_, _, rfl, by simpa [py, iv] using hI⟩
  | succ k ih =>
    intro n y vis best rows e1 e2 e3 hI
    obtain ⟨n, rfl⟩ : ∃ j, n = j + 1 := ⟨n - 1, by omega⟩
    obtain ⟨b', r', g1, g2⟩ := fa_z hC (x := x) (y := y) (r3 := r3) h1 ⟨e2, by omega⟩ h3.2 (fun b r => fX7_findApart_L47 (Int64.ofInt r2) k172 (Int64.ofInt r3) q (Int64.ofInt x) (Int64.ofInt N) (ix m) F n b (Int64.ofInt (y + 1)) r) (2 * r3 + 1).toNat F (-r3) vis best rows (by omega) (by omega) (by omega) hI
    obtain ⟨b2, r2', g3, g4⟩ := ih n (y + 1) _ b' r' (by omega) (by omega) (by omega) g2
    refine ⟨b2, r2', ?_, ?_⟩
    · rw [fX7_findApart_L47, if_neg (by rw [zl_lt ⟨by omega, by omega⟩ ⟨by omega, by omega⟩]; omega)]
      simp only [nm_eq, zl_1, ← Int64.ofInt_neg, ← Int64.ofInt_add]
      exact g1.trans g3
    · rw [py_s, ← List.append_assoc]
      exact g4
theorem fa_x {Q : F6} {N : Int} {m : Nat} {ap : V3 → Bool} {low : (Nat → Int64) → Prop} {q : Nat → Int64} (hC : fa_C Q N m ap low q) {r1 r2 r3 : Int} (h1 : r1 ≤ 40000) (h2 : 0 ≤ r2 ∧ r2 ≤ 40000) (h3 : 0 ≤ r3 ∧ r3 ≤ 40000) {F : Nat} (hF : 100000 ≤ F) : ∀ (k n : Nat) (x : Int) (vis : List V3) (best : Int64) (rows : Nat → Int64), x + k = r1 + 1 → -40000 ≤ x → k + 1 ≤ n → fa_I Q N m ap low vis best rows → ∃ b' r', fX7_findApart_L34 (Int64.ofInt r1) (Int64.ofInt r2) (Int64.ofInt r3) q (Int64.ofInt N) (ix m) F n best (Int64.ofInt x) rows = some (b', r') ∧ fa_I Q N m ap low (vis ++ px r2 r3 k x) b' r' := by
  intro k
  induction k with
  | zero =>
    intro n y vis best rows e1 e2 e3 hI
    obtain ⟨n, rfl⟩ : ∃ j, n = j + 1 := ⟨n - 1, by omega⟩
    rw [fX7_findApart_L34, if_pos (by rw [zl_lt ⟨by omega, by omega⟩ ⟨by omega, by omega⟩]; omega)]
    exact ⟨_, _, rfl, by simpa [px, iv] using hI⟩
  | succ k ih =>
    intro n x vis best rows e1 e2 e3 hI
    obtain ⟨n, rfl⟩ : ∃ j, n = j + 1 := ⟨n - 1, by omega⟩
    obtain ⟨b', r', g1, g2⟩ := fa_y hC (x := x) (r2 := r2) (r3 := r3) ⟨e2, by omega⟩ h2.2 h3 (fun b r => fX7_findApart_L34 (Int64.ofInt r1) (Int64.ofInt r2) (Int64.ofInt r3) q (Int64.ofInt N) (ix m) F n b (Int64.ofInt (x + 1)) r) hF (2 * r2 + 1).toNat F (-r2) vis best rows (by omega) (by omega) (by omega) hI
    obtain ⟨b2, r2', g3, g4⟩ := ih n (x + 1) _ b' r' (by omega) (by omega) (by omega) g2
    refine ⟨b2, r2', ?_, ?_⟩
    · rw [fX7_findApart_L34, if_neg (by rw [zl_lt ⟨by omega, by omega⟩ ⟨by omega, by omega⟩]; omega)]
      simp only [nm_eq, zl_1, ← Int64.ofInt_neg, ← Int64.ofInt_add]
      exact g1.trans g3
    · rw [px_s, ← List.append_assoc]
      exact g4
/-- findApart finds the least value of the rows that lie apart -/
theorem fa_all {Q : F6} {N : Int} {m : Nat} {ap : V3 → Bool} {low : (Nat → Int64) → Prop} {q : Nat → Int64} (hC : fa_C Q N m ap low q) (hp : qf_pd Q) (hN : rc_ok Q N) (hD' : qf_disc Q ≤ 1000000000) {rows : Nat → Int64} (hl : low rows) (hex : ∃ v, ap v = true ∧ qf_val Q v ≤ N) {F : Nat} (hF : 100000 ≤ F) : ∃ b' r' v0, fX7_findApart F q rows (ix m) (Int64.ofInt N) = some (b', r') ∧ low r' ∧ avl r' (3 * m) v0 ∧ ((-40000 ≤ v0.1 ∧ v0.1 ≤ 40000) ∧ (-40000 ≤ v0.2.1 ∧ v0.2.1 ≤ 40000) ∧ (-40000 ≤ v0.2.2 ∧ v0.2.2 ≤ 40000)) ∧ ap v0 = true ∧ b' = Int64.ofInt (qf_val Q v0) ∧ qf_val Q v0 ≤ N ∧ ∀ v, ap v = true → qf_val Q v0 ≤ qf_val Q v := by
  obtain ⟨r1, e1, b1, c1⟩ := l7_reach0 hC.1 hp hN hD' (F := F) (by omega)
  obtain ⟨r2, e2, b2, c2⟩ := l7_reach1 hC.1 hp hN hD' (F := F) (by omega)
  obtain ⟨r3, e3, b3, c3⟩ := l7_reach2 hC.1 hp hN hD' (F := F) (by omega)
  obtain ⟨b', r', g1, g2⟩ := fa_x hC (r1 := r1) (r2 := r2) (r3 := r3) b1.2 b2 b3 hF (2 * r1 + 1).toNat F (-r1) [] (Int64.ofInt (-1)) rows (by omega) (by omega) (by omega) ⟨hl, Or.inl ⟨rfl, fun v hv => by cases hv⟩⟩
  have hall : ∀ v, qf_val Q v ≤ N → v ∈ pts r1 r2 r3 := fun v hv => (pts_mem b1.1 b2.1 b3.1 v).mpr ⟨c1 v hv, c2 v hv, c3 v hv⟩
  rw [List.nil_append] at g2
  obtain ⟨hl2, hI⟩ := g2
  rcases hI with ⟨_, i2⟩ | ⟨w, w1, w2, w3, w4, w5, w6⟩
  · exfalso
    obtain ⟨v, hv1, hv2⟩ := hex
    exact i2 v (hall v hv2) hv1 hv2
  · have hw := (pts_mem b1.1 b2.1 b3.1 w).mp w1
    refine ⟨b', r', w, ?_, hl2, w5, ⟨⟨by omega, by omega⟩, ⟨by omega, by omega⟩, ⟨by omega, by omega⟩⟩, w2, w4, w3, fun v hv => ?_⟩
    · unfold fX7_findApart
      rw [e1, e2, e3]
      simp only [bd1, nm_eq, ← Int64.ofInt_neg]
      exact g1
    · rcases qf_lg N (qf_val Q v) with g | g
      · omega
      · exact w6 v (hall v g) hv
