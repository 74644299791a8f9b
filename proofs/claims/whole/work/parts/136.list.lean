/-! the reference: listRows -/
def sgI (k : Nat) (L : List V3) (lists : Nat → Int64) (sizes : Nat → Int32) : Prop := sizes k = ix L.length ∧ L.length ≤ 420 ∧ ∀ (m : Nat) (v : V3), L[m]? = some v → avl lists (1800 * k + 3 * m) v
theorem sgI_put {k : Nat} {L : List V3} {lists : Nat → Int64} {sizes : Nat → Int32} (h : sgI k L lists sizes) (v : V3) (hl : (L ++ [v]).length ≤ 420) : sgI k (L ++ [v]) (up3 lists (1800 * k + 3 * L.length) (Int64.ofInt v.1) (Int64.ofInt v.2.1) (Int64.ofInt v.2.2)) (upd sizes k (ix (L.length + 1))) := by
  obtain ⟨h1, h2, h3⟩ := h
  refine ⟨by rw [upd_s]; simp, hl, fun m w hm => ?_⟩
  by_cases e : m = L.length
  · subst e
    rw [List.getElem?_append_right (Nat.le_refl _), Nat.sub_self] at hm
    have : v = w := by simpa using hm
    subst this
    exact up3_at _ _ _
  · have hlt := (List.getElem?_eq_some_iff.mp hm).1
    simp only [List.length_append, List.length_cons, List.length_nil] at hlt
    rw [List.getElem?_append_left (by omega)] at hm
    obtain ⟨g0, g1, g2⟩ := h3 m w hm
    refine ⟨?_, ?_, ?_⟩
    · rw [up3_ne _ _ _ _ _ (by omega)]; exact g0
    · rw [up3_ne _ _ _ _ _ (by omega)]; exact g1
    · rw [up3_ne _ _ _ _ _ (by omega)]; exact g2
theorem sgI_keep {k j s : Nat} {L : List V3} {lists : Nat → Int64} {sizes : Nat → Int32} (h : sgI k L lists sizes) (hj : j ≠ k) (hs : s ≤ 419) (x y z : Int64) (t : Int32) : sgI k L (up3 lists (1800 * j + 3 * s) x y z) (upd sizes j t) := by
  obtain ⟨h1, h2, h3⟩ := h
  refine ⟨by rw [upd_n _ _ (Ne.symm hj)]; exact h1, h2, fun m w hm => ?_⟩
  have hlt := (List.getElem?_eq_some_iff.mp hm).1
  obtain ⟨g0, g1, g2⟩ := h3 m w hm
  have : j < k ∨ k < j := by omega
  refine ⟨?_, ?_, ?_⟩
  · rw [up3_ne _ _ _ _ _ (by rcases this with t | t <;> omega)]; exact g0
  · rw [up3_ne _ _ _ _ _ (by rcases this with t | t <;> omega)]; exact g1
  · rw [up3_ne _ _ _ _ _ (by rcases this with t | t <;> omega)]; exact g2
theorem lr_st0 {a b c V : Int} {v : V3} {L0 L1 L2 : List V3} {lists : Nat → Int64} {sizes : Nat → Int32} (h0 : sgI 0 L0 lists sizes) (h1 : sgI 1 L1 lists sizes) (h2 : sgI 2 L2 lists sizes) (rV : rL V) (ra : rL a) (hl : (if V = a then L0 ++ [v] else L0).length ≤ 420) (k203 : (Nat → Int64) → (Nat → Int32) → Option ((Nat → Int64) × (Nat → Int32))) (n : Nat) : ∃ l' s', fX7_listRows_L104 k203 (Int64.ofInt V) (Int64.ofInt v.1) (Int64.ofInt v.2.1) (Int64.ofInt v.2.2) (Int64.ofInt a) (Int64.ofInt b) (Int64.ofInt c) (n + 1) 0 lists sizes = fX7_listRows_L104 k203 (Int64.ofInt V) (Int64.ofInt v.1) (Int64.ofInt v.2.1) (Int64.ofInt v.2.2) (Int64.ofInt a) (Int64.ofInt b) (Int64.ofInt c) n 1 l' s' ∧ sgI 0 (if V = a then L0 ++ [v] else L0) l' s' ∧ sgI 1 L1 l' s' ∧ sgI 2 L2 l' s' := by
  have main : fX7_listRows_L104 k203 (Int64.ofInt V) (Int64.ofInt v.1) (Int64.ofInt v.2.1) (Int64.ofInt v.2.2) (Int64.ofInt a) (Int64.ofInt b) (Int64.ofInt c) (n + 1) 0 lists sizes = if Int64.ofInt V = Int64.ofInt a then (nm (((1800 : Int32) * 0) + ((3 : Int32) * (sizes 0))) (fun (x22 : Int32) => if okI x22 5400 then nm (vp_updL lists x22.toNatClampNeg (Int64.ofInt v.1)) (fun (lists_27 : Nat → Int64) => nm (x22 + (1 : Int32)) (fun (v_28 : Int32) => if okI v_28 5400 then nm (vp_updL lists_27 v_28.toNatClampNeg (Int64.ofInt v.2.1)) (fun (lists_29 : Nat → Int64) => nm (x22 + (2 : Int32)) (fun (v_30 : Int32) => if okI v_30 5400 then nm (vp_updL lists_29 v_30.toNatClampNeg (Int64.ofInt v.2.2)) (fun (lists_31 : Nat → Int64) => fX7_listRows_L104 k203 (Int64.ofInt V) (Int64.ofInt v.1) (Int64.ofInt v.2.1) (Int64.ofInt v.2.2) (Int64.ofInt a) (Int64.ofInt b) (Int64.ofInt c) n 1 lists_31 (upd sizes 0 (sizes 0 + 1))) else none)) else none)) else none)) else fX7_listRows_L104 k203 (Int64.ofInt V) (Int64.ofInt v.1) (Int64.ofInt v.2.1) (Int64.ofInt v.2.2) (Int64.ofInt a) (Int64.ofInt b) (Int64.ofInt c) n 1 lists sizes := rfl
  rw [main]
  by_cases hv : V = a
  · rw [if_pos ((zl_eq rV ra).mpr hv)]
    rw [if_pos hv] at hl ⊢
    have hl2 : L0.length ≤ 419 := by simp only [List.length_append, List.length_cons, List.length_nil] at hl; omega
    have e1 : (1800 : Int32) * 0 + (3 : Int32) * (sizes 0) = ix (1800 * 0 + 3 * L0.length) := by
      rw [h0.1, ix_3, ix_mul]
      show ix 0 + ix (3 * L0.length) = _
      rw [ix_add]
    simp only [nm_eq]
    rw [e1, ix_1, ix_2, ix_add, ix_add, if_pos (ix_ok (by omega) (by decide)), if_pos (ix_ok (by omega) (by decide)), if_pos (ix_ok (by omega) (by decide)), ix_nat (by omega), ix_nat (by omega), ix_nat (by omega), h0.1, ix_add]
    exact ⟨_, _, rfl, sgI_put h0 v hl, sgI_keep h1 (by decide) hl2 _ _ _ _, sgI_keep h2 (by decide) hl2 _ _ _ _⟩
  · rw [if_neg (fun g => hv ((zl_eq rV ra).mp g))]
    rw [if_neg hv] at hl ⊢
    exact ⟨_, _, rfl, h0, h1, h2⟩
theorem lr_st1 {a b c V : Int} {v : V3} {L0 L1 L2 : List V3} {lists : Nat → Int64} {sizes : Nat → Int32} (h0 : sgI 0 L0 lists sizes) (h1 : sgI 1 L1 lists sizes) (h2 : sgI 2 L2 lists sizes) (rV : rL V) (ra : rL b) (hl : (if V = b then L1 ++ [v] else L1).length ≤ 420) (k203 : (Nat → Int64) → (Nat → Int32) → Option ((Nat → Int64) × (Nat → Int32))) (n : Nat) : ∃ l' s', fX7_listRows_L104 k203 (Int64.ofInt V) (Int64.ofInt v.1) (Int64.ofInt v.2.1) (Int64.ofInt v.2.2) (Int64.ofInt a) (Int64.ofInt b) (Int64.ofInt c) (n + 1) 1 lists sizes = fX7_listRows_L104 k203 (Int64.ofInt V) (Int64.ofInt v.1) (Int64.ofInt v.2.1) (Int64.ofInt v.2.2) (Int64.ofInt a) (Int64.ofInt b) (Int64.ofInt c) n 2 l' s' ∧ sgI 0 L0 l' s' ∧ sgI 1 (if V = b then L1 ++ [v] else L1) l' s' ∧ sgI 2 L2 l' s' := by
  have main : fX7_listRows_L104 k203 (Int64.ofInt V) (Int64.ofInt v.1) (Int64.ofInt v.2.1) (Int64.ofInt v.2.2) (Int64.ofInt a) (Int64.ofInt b) (Int64.ofInt c) (n + 1) 1 lists sizes = if Int64.ofInt V = Int64.ofInt b then (nm (((1800 : Int32) * 1) + ((3 : Int32) * (sizes 1))) (fun (x22 : Int32) => if okI x22 5400 then nm (vp_updL lists x22.toNatClampNeg (Int64.ofInt v.1)) (fun (lists_27 : Nat → Int64) => nm (x22 + (1 : Int32)) (fun (v_28 : Int32) => if okI v_28 5400 then nm (vp_updL lists_27 v_28.toNatClampNeg (Int64.ofInt v.2.1)) (fun (lists_29 : Nat → Int64) => nm (x22 + (2 : Int32)) (fun (v_30 : Int32) => if okI v_30 5400 then nm (vp_updL lists_29 v_30.toNatClampNeg (Int64.ofInt v.2.2)) (fun (lists_31 : Nat → Int64) => fX7_listRows_L104 k203 (Int64.ofInt V) (Int64.ofInt v.1) (Int64.ofInt v.2.1) (Int64.ofInt v.2.2) (Int64.ofInt a) (Int64.ofInt b) (Int64.ofInt c) n 2 lists_31 (upd sizes 1 (sizes 1 + 1))) else none)) else none)) else none)) else fX7_listRows_L104 k203 (Int64.ofInt V) (Int64.ofInt v.1) (Int64.ofInt v.2.1) (Int64.ofInt v.2.2) (Int64.ofInt a) (Int64.ofInt b) (Int64.ofInt c) n 2 lists sizes := rfl
  rw [main]
  by_cases hv : V = b
  · rw [if_pos ((zl_eq rV ra).mpr hv)]
    rw [if_pos hv] at hl ⊢
    have hl2 : L1.length ≤ 419 := by simp only [List.length_append, List.length_cons, List.length_nil] at hl; omega
    have e1 : (1800 : Int32) * 1 + (3 : Int32) * (sizes 1) = ix (1800 * 1 + 3 * L1.length) := by
      rw [h1.1, ix_3, ix_mul]
      show ix 1800 + ix (3 * L1.length) = _
      rw [ix_add]
    simp only [nm_eq]
    rw [e1, ix_1, ix_2, ix_add, ix_add, if_pos (ix_ok (by omega) (by decide)), if_pos (ix_ok (by omega) (by decide)), if_pos (ix_ok (by omega) (by decide)), ix_nat (by omega), ix_nat (by omega), ix_nat (by omega), h1.1, ix_add]
    exact ⟨_, _, rfl, sgI_keep h0 (by decide) hl2 _ _ _ _, sgI_put h1 v hl, sgI_keep h2 (by decide) hl2 _ _ _ _⟩
  · rw [if_neg (fun g => hv ((zl_eq rV ra).mp g))]
    rw [if_neg hv] at hl ⊢
    exact ⟨_, _, rfl, h0, h1, h2⟩
theorem lr_st2 {a b c V : Int} {v : V3} {L0 L1 L2 : List V3} {lists : Nat → Int64} {sizes : Nat → Int32} (h0 : sgI 0 L0 lists sizes) (h1 : sgI 1 L1 lists sizes) (h2 : sgI 2 L2 lists sizes) (rV : rL V) (ra : rL c) (hl : (if V = c then L2 ++ [v] else L2).length ≤ 420) (k203 : (Nat → Int64) → (Nat → Int32) → Option ((Nat → Int64) × (Nat → Int32))) (n : Nat) : ∃ l' s', fX7_listRows_L104 k203 (Int64.ofInt V) (Int64.ofInt v.1) (Int64.ofInt v.2.1) (Int64.ofInt v.2.2) (Int64.ofInt a) (Int64.ofInt b) (Int64.ofInt c) (n + 1) 2 lists sizes = fX7_listRows_L104 k203 (Int64.ofInt V) (Int64.ofInt v.1) (Int64.ofInt v.2.1) (Int64.ofInt v.2.2) (Int64.ofInt a) (Int64.ofInt b) (Int64.ofInt c) n 3 l' s' ∧ sgI 0 L0 l' s' ∧ sgI 1 L1 l' s' ∧ sgI 2 (if V = c then L2 ++ [v] else L2) l' s' := by
  have main : fX7_listRows_L104 k203 (Int64.ofInt V) (Int64.ofInt v.1) (Int64.ofInt v.2.1) (Int64.ofInt v.2.2) (Int64.ofInt a) (Int64.ofInt b) (Int64.ofInt c) (n + 1) 2 lists sizes = if Int64.ofInt V = Int64.ofInt c then (nm (((1800 : Int32) * 2) + ((3 : Int32) * (sizes 2))) (fun (x22 : Int32) => if okI x22 5400 then nm (vp_updL lists x22.toNatClampNeg (Int64.ofInt v.1)) (fun (lists_27 : Nat → Int64) => nm (x22 + (1 : Int32)) (fun (v_28 : Int32) => if okI v_28 5400 then nm (vp_updL lists_27 v_28.toNatClampNeg (Int64.ofInt v.2.1)) (fun (lists_29 : Nat → Int64) => nm (x22 + (2 : Int32)) (fun (v_30 : Int32) => if okI v_30 5400 then nm (vp_updL lists_29 v_30.toNatClampNeg (Int64.ofInt v.2.2)) (fun (lists_31 : Nat → Int64) => fX7_listRows_L104 k203 (Int64.ofInt V) (Int64.ofInt v.1) (Int64.ofInt v.2.1) (Int64.ofInt v.2.2) (Int64.ofInt a) (Int64.ofInt b) (Int64.ofInt c) n 3 lists_31 (upd sizes 2 (sizes 2 + 1))) else none)) else none)) else none)) else fX7_listRows_L104 k203 (Int64.ofInt V) (Int64.ofInt v.1) (Int64.ofInt v.2.1) (Int64.ofInt v.2.2) (Int64.ofInt a) (Int64.ofInt b) (Int64.ofInt c) n 3 lists sizes := rfl
  rw [main]
  by_cases hv : V = c
  · rw [if_pos ((zl_eq rV ra).mpr hv)]
    rw [if_pos hv] at hl ⊢
    have hl2 : L2.length ≤ 419 := by simp only [List.length_append, List.length_cons, List.length_nil] at hl; omega
    have e1 : (1800 : Int32) * 2 + (3 : Int32) * (sizes 2) = ix (1800 * 2 + 3 * L2.length) := by
      rw [h2.1, ix_3, ix_mul]
      show ix 3600 + ix (3 * L2.length) = _
      rw [ix_add]
    simp only [nm_eq]
    rw [e1, ix_1, ix_2, ix_add, ix_add, if_pos (ix_ok (by omega) (by decide)), if_pos (ix_ok (by omega) (by decide)), if_pos (ix_ok (by omega) (by decide)), ix_nat (by omega), ix_nat (by omega), ix_nat (by omega), h2.1, ix_add]
    exact ⟨_, _, rfl, sgI_keep h0 (by decide) hl2 _ _ _ _, sgI_keep h1 (by decide) hl2 _ _ _ _, sgI_put h2 v hl⟩
  · rw [if_neg (fun g => hv ((zl_eq rV ra).mp g))]
    rw [if_neg hv] at hl ⊢
    exact ⟨_, _, rfl, h0, h1, h2⟩
def lf (Q : F6) (a : Int) (vis : List V3) : List V3 := vis.filter (fun v => decide (qf_val Q v = a))
theorem lf_app (Q : F6) (a : Int) (vis : List V3) (v : V3) : lf Q a (vis ++ [v]) = if qf_val Q v = a then lf Q a vis ++ [v] else lf Q a vis := by
  unfold lf
  rw [List.filter_append]
  by_cases h : qf_val Q v = a <;> simp [h]
def lr_I (Q : F6) (a b c : Int) (vis : List V3) (lists : Nat → Int64) (sizes : Nat → Int32) : Prop := sgI 0 (lf Q a vis) lists sizes ∧ sgI 1 (lf Q b vis) lists sizes ∧ sgI 2 (lf Q c vis) lists sizes
def lr_C (Q : F6) (a b c : Int) (q : Nat → Int64) : Prop := al6 q Q ∧ (rL a ∧ rL b ∧ rL c) ∧ (∀ v : V3, b4 v → rL (qf_val Q v)) ∧ ∀ l : List V3, l.Nodup → (lf Q a l).length ≤ 420 ∧ (lf Q b l).length ≤ 420 ∧ (lf Q c l).length ≤ 420
theorem lr_body {Q : F6} {a b c : Int} {q : Nat → Int64} (hC : lr_C Q a b c q) {v : V3} (hv : b4 v) {vis : List V3} {lists : Nat → Int64} {sizes : Nat → Int32} (hI : lr_I Q a b c vis lists sizes) (hnd : (vis ++ [v]).Nodup) (k203 : (Nat → Int64) → (Nat → Int32) → Option ((Nat → Int64) × (Nat → Int32))) {F : Nat} (hF : 100000 ≤ F) : ∃ l' s', fX7_listRows_L104 k203 (Int64.ofInt (qf_val Q v)) (Int64.ofInt v.1) (Int64.ofInt v.2.1) (Int64.ofInt v.2.2) (Int64.ofInt a) (Int64.ofInt b) (Int64.ofInt c) F 0 lists sizes = k203 l' s' ∧ lr_I Q a b c (vis ++ [v]) l' s' := by
  obtain ⟨hq, ⟨ra, rb, rc⟩, hval, hlen⟩ := hC
  obtain ⟨h0, h1, h2⟩ := hI
  obtain ⟨n0, n1, n2⟩ := hlen _ hnd
  have rV := hval v hv
  rw [lf_app] at n0 n1 n2
  obtain ⟨f, rfl⟩ : ∃ f, F = f + 4 := ⟨F - 4, by omega⟩
  obtain ⟨l1, s1, e1, i0, i1, i2⟩ := lr_st0 (a := a) (b := b) (c := c) h0 h1 h2 rV ra n0 k203 (f + 3)
  obtain ⟨l2, s2, e2, j0, j1, j2⟩ := lr_st1 (a := a) (b := b) (c := c) i0 i1 i2 rV rb n1 k203 (f + 2)
  obtain ⟨l3, s3, e3, t0, t1, t2⟩ := lr_st2 (a := a) (b := b) (c := c) j0 j1 j2 rV rc n2 k203 (f + 1)
  refine ⟨l3, s3, ?_, ?_⟩
  · rw [e1, e2, e3]
    rfl
  · unfold lr_I
    rw [lf_app, lf_app, lf_app]
    exact ⟨t0, t1, t2⟩
theorem lr_z {Q : F6} {a b c : Int} {q : Nat → Int64} (hC : lr_C Q a b c q) {x y r3 : Int} (h1 : -40000 ≤ x ∧ x ≤ 40000) (h2 : -40000 ≤ y ∧ y ≤ 40000) (h3 : r3 ≤ 40000) (k212 : (Nat → Int64) → (Nat → Int32) → Option ((Nat → Int64) × (Nat → Int32))) {F : Nat} (hF : 100000 ≤ F) : ∀ (k n : Nat) (z : Int) (vis : List V3) (lists : Nat → Int64) (sizes : Nat → Int32), z + k = r3 + 1 → -40000 ≤ z → k + 1 ≤ n → (vis ++ pz x y k z).Nodup → lr_I Q a b c vis lists sizes → ∃ l' s', fX7_listRows_L81 (Int64.ofInt r3) k212 q (Int64.ofInt x) (Int64.ofInt y) (Int64.ofInt a) (Int64.ofInt b) (Int64.ofInt c) F n (Int64.ofInt z) lists sizes = k212 l' s' ∧ lr_I Q a b c (vis ++ pz x y k z) l' s' := by
  intro k
  induction k with
  | zero =>
    intro n z vis lists sizes e1 e2 e3 hnd hI
    obtain ⟨n, rfl⟩ : ∃ j, n = j + 1 := ⟨n - 1, by omega⟩
    rw [fX7_listRows_L81, if_pos (by rw [zl_lt ⟨by omega, by omega⟩ ⟨by omega, by omega⟩]; omega)]
    exact ⟨_, _, rfl, by simpa [pz, iv] using hI⟩
  | succ k ih =>
    intro n z vis lists sizes e1 e2 e3 hnd hI
    obtain ⟨n, rfl⟩ : ∃ j, n = j + 1 := ⟨n - 1, by omega⟩
    have ea : vis ++ pz x y (k + 1) z = (vis ++ [(x, y, z)]) ++ pz x y k (z + 1) := by rw [pz_s, List.append_assoc]; rfl
    rw [ea] at hnd ⊢
    obtain ⟨l', s', g1, g2⟩ := lr_body hC (v := (x, y, z)) ⟨h1, h2, e2, by simp only; omega⟩ hI (List.pairwise_append.mp hnd).1 (fun l s => fX7_listRows_L81 (Int64.ofInt r3) k212 q (Int64.ofInt x) (Int64.ofInt y) (Int64.ofInt a) (Int64.ofInt b) (Int64.ofInt c) F n (Int64.ofInt (z + 1)) l s) hF
    obtain ⟨l2, s2, g3, g4⟩ := ih n (z + 1) (vis ++ [(x, y, z)]) l' s' (by omega) (by omega) (by omega) hnd g2
    refine ⟨l2, s2, ?_, g4⟩
    rw [fX7_listRows_L81, if_neg (by rw [zl_lt ⟨by omega, by omega⟩ ⟨by omega, by omega⟩]; omega)]
    have hv := l7_val hC.1 (x, y, z)
    simp only at hv
    rw [hv]
    simp only [bd1, nm_eq, zl_1, ← Int64.ofInt_add]
    exact g1.trans g3
theorem lr_y {Q : F6} {a b c : Int} {q : Nat → Int64} (hC : lr_C Q a b c q) {x r2 r3 : Int} (h1 : -40000 ≤ x ∧ x ≤ 40000) (h2 : r2 ≤ 40000) (h3 : 0 ≤ r3 ∧ r3 ≤ 40000) (k221 : (Nat → Int64) → (Nat → Int32) → Option ((Nat → Int64) × (Nat → Int32))) {F : Nat} (hF : 100000 ≤ F) : ∀ (k n : Nat) (y : Int) (vis : List V3) (lists : Nat → Int64) (sizes : Nat → Int32), y + k = r2 + 1 → -40000 ≤ y → k + 1 ≤ n → (vis ++ py r3 x k y).Nodup → lr_I Q a b c vis lists sizes → ∃ l' s', fX7_listRows_L68 (Int64.ofInt r2) k221 (Int64.ofInt r3) q (Int64.ofInt x) (Int64.ofInt a) (Int64.ofInt b) (Int64.ofInt c) F n (Int64.ofInt y) lists sizes = k221 l' s' ∧ lr_I Q a b c (vis ++ py r3 x k y) l' s' := by
  intro k
  induction k with
  | zero =>
    intro n y vis lists sizes e1 e2 e3 hnd hI
    obtain ⟨n, rfl⟩ : ∃ j, n = j + 1 := ⟨n - 1, by omega⟩
    rw [fX7_listRows_L68, if_pos (by rw [zl_lt ⟨by omega, by omega⟩ ⟨by omega, by omega⟩]; omega)]
    exact ⟨_, _, rfl, by simpa [py, iv] using hI⟩
  | succ k ih =>
    intro n y vis lists sizes e1 e2 e3 hnd hI
    obtain ⟨n, rfl⟩ : ∃ j, n = j + 1 := ⟨n - 1, by omega⟩
    rw [py_s, ← List.append_assoc] at hnd ⊢
    obtain ⟨l', s', g1, g2⟩ := lr_z hC (x := x) (y := y) (r3 := r3) h1 ⟨e2, by omega⟩ h3.2 (fun l s => fX7_listRows_L68 (Int64.ofInt r2) k221 (Int64.ofInt r3) q (Int64.ofInt x) (Int64.ofInt a) (Int64.ofInt b) (Int64.ofInt c) F n (Int64.ofInt (y + 1)) l s) hF (2 * r3 + 1).toNat F (-r3) vis lists sizes (by omega) (by omega) (by omega) (List.pairwise_append.mp hnd).1 hI
    obtain ⟨l2, s2, g3, g4⟩ := ih n (y + 1) _ l' s' (by omega) (by omega) (by omega) hnd g2
    refine ⟨l2, s2, ?_, g4⟩
    rw [fX7_listRows_L68, if_neg (by rw [zl_lt ⟨by omega, by omega⟩ ⟨by omega, by omega⟩]; omega)]
    simp only [nm_eq, zl_1, ← Int64.ofInt_neg, ← Int64.ofInt_add]
    exact g1.trans g3
theorem lr_x {Q : F6} {a b c : Int} {q : Nat → Int64} (hC : lr_C Q a b c q) {r1 r2 r3 : Int} (h1 : r1 ≤ 40000) (h2 : 0 ≤ r2 ∧ r2 ≤ 40000) (h3 : 0 ≤ r3 ∧ r3 ≤ 40000) {F : Nat} (hF : 100000 ≤ F) : ∀ (k n : Nat) (x : Int) (vis : List V3) (lists : Nat → Int64) (sizes : Nat → Int32), x + k = r1 + 1 → -40000 ≤ x → k + 1 ≤ n → (vis ++ px r2 r3 k x).Nodup → lr_I Q a b c vis lists sizes → ∃ l' s', fX7_listRows_L55 (Int64.ofInt r1) (Int64.ofInt r2) (Int64.ofInt r3) q (Int64.ofInt a) (Int64.ofInt b) (Int64.ofInt c) F n (Int64.ofInt x) lists sizes = some (l', s') ∧ lr_I Q a b c (vis ++ px r2 r3 k x) l' s' := by
  intro k
  induction k with
  | zero =>
    intro n y vis lists sizes e1 e2 e3 hnd hI
    obtain ⟨n, rfl⟩ : ∃ j, n = j + 1 := ⟨n - 1, by omega⟩
    rw [fX7_listRows_L55, if_pos (by rw [zl_lt ⟨by omega, by omega⟩ ⟨by omega, by omega⟩]; omega)]
    exact ⟨_, _, rfl, by simpa [px, iv] using hI⟩
  | succ k ih =>
    intro n x vis lists sizes e1 e2 e3 hnd hI
    obtain ⟨n, rfl⟩ : ∃ j, n = j + 1 := ⟨n - 1, by omega⟩
    rw [px_s, ← List.append_assoc] at hnd ⊢
    obtain ⟨l', s', g1, g2⟩ := lr_y hC (x := x) (r2 := r2) (r3 := r3) ⟨e2, by omega⟩ h2.2 h3 (fun l s => fX7_listRows_L55 (Int64.ofInt r1) (Int64.ofInt r2) (Int64.ofInt r3) q (Int64.ofInt a) (Int64.ofInt b) (Int64.ofInt c) F n (Int64.ofInt (x + 1)) l s) hF (2 * r2 + 1).toNat F (-r2) vis lists sizes (by omega) (by omega) (by omega) (List.pairwise_append.mp hnd).1 hI
    obtain ⟨l2, s2, g3, g4⟩ := ih n (x + 1) _ l' s' (by omega) (by omega) (by omega) hnd g2
    refine ⟨l2, s2, ?_, g4⟩
    rw [fX7_listRows_L55, if_neg (by rw [zl_lt ⟨by omega, by omega⟩ ⟨by omega, by omega⟩]; omega)]
    simp only [nm_eq, zl_1, ← Int64.ofInt_neg, ← Int64.ofInt_add]
    exact g1.trans g3
theorem lr_30 (k50 : (Nat → Int32) → Option ((Nat → Int64) × (Nat → Int32))) (s : Nat → Int32) (n : Nat) : fX7_listRows_L30 k50 (n + 4) 0 s = k50 (upd (upd (upd s 0 0) 1 0) 2 0) := rfl
theorem lr_0 (fu : Nat) (q lists : Nat → Int64) (sizes : Nat → Int32) (a b c : Int64) : fX7_listRows fu q lists sizes a b c = bd1 (fX7_reach fu q (0) c) (fun r_1 => bd1 (fX7_reach fu q (1) c) (fun r_2 => bd1 (fX7_reach fu q (2) c) (fun r_3 => fX7_listRows_L30 (fun s8 => fX7_listRows_L55 r_1 r_2 r_3 q a b c fu fu (-r_1) lists s8) fu 0 sizes))) := rfl
/-- listRows lists all rows that have one of the three values -/
theorem lr_all {Q : F6} {a b c : Int} {q : Nat → Int64} (hC : lr_C Q a b c q) (hp : qf_pd Q) (hN : rc_ok Q c) (hD' : qf_disc Q ≤ 1000000000) (hac : a ≤ c) (hbc : b ≤ c) (lists : Nat → Int64) (sizes : Nat → Int32) {F : Nat} (hF : 100000 ≤ F) : ∃ l' s' La Lb Lc, fX7_listRows F q lists sizes (Int64.ofInt a) (Int64.ofInt b) (Int64.ofInt c) = some (l', s') ∧ sgI 0 La l' s' ∧ sgI 1 Lb l' s' ∧ sgI 2 Lc l' s' ∧ (La.Nodup ∧ Lb.Nodup ∧ Lc.Nodup) ∧ (∀ v, v ∈ La ↔ qf_val Q v = a) ∧ (∀ v, v ∈ Lb ↔ qf_val Q v = b) ∧ (∀ v, v ∈ Lc ↔ qf_val Q v = c) ∧ ∀ v, qf_val Q v ≤ c → b4 v := by
  obtain ⟨r1, e1, b1, c1⟩ := l7_reach0 hC.1 hp hN hD' (F := F) (by omega)
  obtain ⟨r2, e2, b2, c2⟩ := l7_reach1 hC.1 hp hN hD' (F := F) (by omega)
  obtain ⟨r3, e3, b3, c3⟩ := l7_reach2 hC.1 hp hN hD' (F := F) (by omega)
  have hall : ∀ v, qf_val Q v ≤ c → v ∈ pts r1 r2 r3 := fun v hv => (pts_mem b1.1 b2.1 b3.1 v).mpr ⟨c1 v hv, c2 v hv, c3 v hv⟩
  have hnd : (([] : List V3) ++ px r2 r3 (2 * r1 + 1).toNat (-r1)).Nodup := by rw [List.nil_append]; exact pts_nd r1 r2 r3
  have h0 : lr_I Q a b c [] lists (upd (upd (upd sizes 0 0) 1 0) 2 0) := by
    have hs : ∀ k, k < 3 → sgI k [] lists (upd (upd (upd sizes 0 0) 1 0) 2 0) := by
      intro k hk
      refine ⟨?_, by simp, fun m v hm => by simp at hm⟩
      have : k = 0 ∨ k = 1 ∨ k = 2 := by omega
      rcases this with e | e | e <;> subst e <;> rfl
    exact ⟨hs 0 (by decide), hs 1 (by decide), hs 2 (by decide)⟩
  obtain ⟨l', s', g1, g2⟩ := lr_x hC (r1 := r1) (r2 := r2) (r3 := r3) b1.2 b2 b3 hF (2 * r1 + 1).toNat F (-r1) [] lists _ (by omega) (by omega) (by omega) hnd h0
  rw [List.nil_append] at g2
  obtain ⟨i0, i1, i2⟩ := g2
  have hmem : ∀ t, t ≤ c → ∀ v, v ∈ lf Q t (pts r1 r2 r3) ↔ qf_val Q v = t := by
    intro t ht v
    unfold lf
    rw [List.mem_filter, decide_eq_true_eq]
    exact ⟨fun h => h.2, fun h => ⟨hall v (by omega), h⟩⟩
  have hnf : ∀ t, (lf Q t (pts r1 r2 r3)).Nodup := fun t => List.Pairwise.filter _ (pts_nd r1 r2 r3)
  refine ⟨l', s', lf Q a (pts r1 r2 r3), lf Q b (pts r1 r2 r3), lf Q c (pts r1 r2 r3), ?_, i0, i1, i2, ⟨hnf a, hnf b, hnf c⟩, hmem a hac, hmem b hbc, hmem c (Int.le_refl _), fun v hv => ?_⟩
  · obtain ⟨f, rfl⟩ : ∃ f, F = f + 4 := ⟨F - 4, by omega⟩
    rw [lr_0, e1, e2, e3]
    simp only [bd1]
    rw [lr_30, ← Int64.ofInt_neg]
    exact g1
  · have q1 := c1 v hv
    have q2 := c2 v hv
    have q3 := c3 v hv
    exact ⟨⟨by omega, by omega⟩, ⟨by omega, by omega⟩, ⟨by omega, by omega⟩⟩
