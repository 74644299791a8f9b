/-! how often a number is taken: the reference -/
def cnt_ (Q : F6) (N : Int) (k : Nat) : Prop := ∃ l : List V3, l.Nodup ∧ (∀ v, v ∈ l ↔ qf_val Q v = N) ∧ l.length = k
theorem cnt_eq {Q : F6} {N : Int} {k k' : Nat} (h : cnt_ Q N k) (h' : cnt_ Q N k') : k = k' := by
  obtain ⟨l, h1, h2, h3⟩ := h
  obtain ⟨l', h1', h2', h3'⟩ := h'
  rw [← h3, ← h3']
  exact nd_eq h1 h1' (fun v => (h2 v).trans (h2' v).symm)
theorem cnt_trn {Q : F6} {N : Int} {k : Nat} {U : T9} (hU : qf_gl U) (h : cnt_ (qf_trn Q U) N k) : cnt_ Q N k := by
  obtain ⟨l, h1, h2, h3⟩ := h
  refine ⟨l.map (qf_lin U), nd_map (fun x y e => qf_lin_inj hU e) h1, fun v => ?_, by rw [List.length_map]; exact h3⟩
  rw [List.mem_map]
  constructor
  · rintro ⟨w, hw, e⟩
    rw [← e, ← qf_val_trn]
    exact (h2 w).mp hw
  · intro hv
    exact ⟨qf_lin (qf_inv U) v, (h2 _).mpr (by rw [mn_val hU]; exact hv), mn_back hU v⟩
def tn_I (Q : F6) (N : Int) (vis : List V3) (many : Int32) : Prop := many = ix (lf Q N vis).length
def tn_C (Q : F6) (N : Int) (q : Nat → Int64) : Prop := al6 q Q ∧ rI N ∧ ∀ v : V3, b4 v → rL (qf_val Q v)
theorem tn_z {Q : F6} {N : Int} {q : Nat → Int64} (hC : tn_C Q N q) {x y r3 : Int} (h1 : -40000 ≤ x ∧ x ≤ 40000) (h2 : -40000 ≤ y ∧ y ≤ 40000) (h3 : r3 ≤ 40000) (k101 : Int32 → Option Int32) : ∀ (k n : Nat) (z : Int) (vis : List V3) (many : Int32), z + k = r3 + 1 → -40000 ≤ z → k + 1 ≤ n → tn_I Q N vis many → ∃ m', fX7_takenNow_L58 (Int64.ofInt r3) k101 q (Int64.ofInt x) (Int64.ofInt y) (Int32.ofInt N) n many (Int64.ofInt z) = k101 m' ∧ tn_I Q N (vis ++ pz x y k z) m' := by
  obtain ⟨hq, hN, hval⟩ := hC
  intro k
  induction k with
  | zero =>
    intro n z vis many e1 e2 e3 hI
    obtain ⟨n, rfl⟩ : ∃ j, n = j + 1 := ⟨n - 1, by omega⟩
    rw [fX7_takenNow_L58, if_pos (by rw [zl_lt ⟨by omega, by omega⟩ ⟨by omega, by omega⟩]; omega)]
    exact ⟨_, rfl, by simpa [pz, iv] using hI⟩
  | succ k ih =>
    intro n z vis many e1 e2 e3 hI
    obtain ⟨n, rfl⟩ : ∃ j, n = j + 1 := ⟨n - 1, by omega⟩
    have ea : vis ++ pz x y (k + 1) z = (vis ++ [(x, y, z)]) ++ pz x y k (z + 1) := by rw [pz_s, List.append_assoc]; rfl
    rw [ea, fX7_takenNow_L58, if_neg (by rw [zl_lt ⟨by omega, by omega⟩ ⟨by omega, by omega⟩]; omega)]
    have hv := l7_val hq (x, y, z)
    simp only at hv
    rw [hv, zi_wide hN]
    simp only [bd1, nm_eq, zl_1, ← Int64.ofInt_add]
    have hb : b4 (x, y, z) := ⟨h1, h2, e2, by simp only; omega⟩
    have hiff : Int64.ofInt (qf_val Q (x, y, z)) = Int64.ofInt N ↔ qf_val Q (x, y, z) = N := zl_eq (hval _ hb) ⟨by omega, by omega⟩
    unfold tn_I at hI
    by_cases g : qf_val Q (x, y, z) = N
    · rw [if_pos (hiff.mpr g)]
      exact ih n (z + 1) _ _ (by omega) (by omega) (by omega) (by unfold tn_I; rw [lf_app, if_pos g, hI, ix_1, ix_add]; simp)
    · rw [if_neg (fun h => g (hiff.mp h))]
      exact ih n (z + 1) _ _ (by omega) (by omega) (by omega) (by unfold tn_I; rw [lf_app, if_neg g, hI, ix_0, ix_add, Nat.add_zero])
theorem tn_y {Q : F6} {N : Int} {q : Nat → Int64} (hC : tn_C Q N q) {x r2 r3 : Int} (h1 : -40000 ≤ x ∧ x ≤ 40000) (h2 : r2 ≤ 40000) (h3 : 0 ≤ r3 ∧ r3 ≤ 40000) (k110 : Int32 → Option Int32) {F : Nat} (hF : 100000 ≤ F) : ∀ (k n : Nat) (y : Int) (vis : List V3) (many : Int32), y + k = r2 + 1 → -40000 ≤ y → k + 1 ≤ n → tn_I Q N vis many → ∃ m', fX7_takenNow_L45 (Int64.ofInt r2) k110 (Int64.ofInt r3) q (Int64.ofInt x) (Int32.ofInt N) F n many (Int64.ofInt y) = k110 m' ∧ tn_I Q N (vis ++ py r3 x k y) m' := by
  intro k
  induction k with
  | zero =>
    intro n y vis many e1 e2 e3 hI
    obtain ⟨n, rfl⟩ : ∃ j, n = j + 1 := ⟨n - 1, by omega⟩
    rw [fX7_takenNow_L45, if_pos (by rw [zl_lt ⟨by omega, by omega⟩ ⟨by omega, by omega⟩]; omega)]
    exact ⟨_, rfl, by simpa [py, iv] using hI⟩
  | succ k ih =>
    intro n y vis many e1 e2 e3 hI
    obtain ⟨n, rfl⟩ : ∃ j, n = j + 1 := ⟨n - 1, by omega⟩
    rw [py_s, ← List.append_assoc]
    obtain ⟨m', g1, g2⟩ := tn_z hC (x := x) (y := y) (r3 := r3) h1 ⟨e2, by omega⟩ h3.2 (fun m => fX7_takenNow_L45 (Int64.ofInt r2) k110 (Int64.ofInt r3) q (Int64.ofInt x) (Int32.ofInt N) F n m (Int64.ofInt (y + 1))) (2 * r3 + 1).toNat F (-r3) vis many (by omega) (by omega) (by omega) hI
    obtain ⟨m2, g3, g4⟩ := ih n (y + 1) _ m' (by omega) (by omega) (by omega) g2
    refine ⟨m2, ?_, g4⟩
    rw [fX7_takenNow_L45, if_neg (by rw [zl_lt ⟨by omega, by omega⟩ ⟨by omega, by omega⟩]; omega)]
    simp only [nm_eq, zl_1, ← Int64.ofInt_neg, ← Int64.ofInt_add]
    exact g1.trans g3
theorem tn_x {Q : F6} {N : Int} {q : Nat → Int64} (hC : tn_C Q N q) {r1 r2 r3 : Int} (h1 : r1 ≤ 40000) (h2 : 0 ≤ r2 ∧ r2 ≤ 40000) (h3 : 0 ≤ r3 ∧ r3 ≤ 40000) {F : Nat} (hF : 100000 ≤ F) : ∀ (k n : Nat) (x : Int) (vis : List V3) (many : Int32), x + k = r1 + 1 → -40000 ≤ x → k + 1 ≤ n → tn_I Q N vis many → ∃ m', fX7_takenNow_L33 (Int64.ofInt r1) (Int64.ofInt r2) (Int64.ofInt r3) q (Int32.ofInt N) F n many (Int64.ofInt x) = some m' ∧ tn_I Q N (vis ++ px r2 r3 k x) m' := by
  intro k
  induction k with
  | zero =>
    intro n y vis many e1 e2 e3 hI
    obtain ⟨n, rfl⟩ : ∃ j, n = j + 1 := ⟨n - 1, by omega⟩
    rw [fX7_takenNow_L33, if_pos (by rw [zl_lt ⟨by omega, by omega⟩ ⟨by omega, by omega⟩]; omega)]
    exact ⟨_, rfl, by simpa [px, iv] using hI⟩
  | succ k ih =>
    intro n x vis many e1 e2 e3 hI
    obtain ⟨n, rfl⟩ : ∃ j, n = j + 1 := ⟨n - 1, by omega⟩
    rw [px_s, ← List.append_assoc]
    obtain ⟨m', g1, g2⟩ := tn_y hC (x := x) (r2 := r2) (r3 := r3) ⟨e2, by omega⟩ h2.2 h3 (fun m => fX7_takenNow_L33 (Int64.ofInt r1) (Int64.ofInt r2) (Int64.ofInt r3) q (Int32.ofInt N) F n m (Int64.ofInt (x + 1))) hF (2 * r2 + 1).toNat F (-r2) vis many (by omega) (by omega) (by omega) hI
    obtain ⟨m2, g3, g4⟩ := ih n (x + 1) _ m' (by omega) (by omega) (by omega) g2
    refine ⟨m2, ?_, g4⟩
    rw [fX7_takenNow_L33, if_neg (by rw [zl_lt ⟨by omega, by omega⟩ ⟨by omega, by omega⟩]; omega)]
    simp only [nm_eq, zl_1, ← Int64.ofInt_neg, ← Int64.ofInt_add]
    exact g1.trans g3
theorem l7_takenNow {Q : F6} {N : Int} {q : Nat → Int64} (hq : al6 q Q) (hp : qf_pd Q) (hw : pw_ Q) (hD : qf_disc Q ≤ 6912) (hN : 0 ≤ N) (hN' : N ≤ 100) {F : Nat} (hF : 100000 ≤ F) : ∃ k, fX7_takenNow F q (Int32.ofInt N) = some (ix k) ∧ cnt_ Q N k := by
  obtain ⟨U, hU, hS, hgD, m1, m2, m3⟩ := pw_bnd hp hw hD
  have ha := hS.1
  have hab := hS.2.1
  have hbc := hS.2.2.1
  have hrc : rc_ok Q N := rc_mk hp m1 m2 m3 (by omega) hgD (by omega) (by omega) (Or.inr hN')
  have hD' : qf_disc Q ≤ 1000000000 := by omega
  obtain ⟨r1, e1, b1, c1⟩ := l7_reach0 hq hp hrc hD' (F := F) (by omega)
  obtain ⟨r2, e2, b2, c2⟩ := l7_reach1 hq hp hrc hD' (F := F) (by omega)
  obtain ⟨r3, e3, b3, c3⟩ := l7_reach2 hq hp hrc hD' (F := F) (by omega)
  have hC : tn_C Q N q := ⟨hq, ⟨by omega, by omega⟩, fun v hv => by
    have := pw_val hp hw (by omega) (by omega) (by omega) hv
    exact ⟨by omega, by omega⟩⟩
  obtain ⟨m', g1, g2⟩ := tn_x hC (r1 := r1) (r2 := r2) (r3 := r3) b1.2 b2 b3 hF (2 * r1 + 1).toNat F (-r1) [] 0 (by omega) (by omega) (by omega) rfl
  rw [List.nil_append] at g2
  refine ⟨(lf Q N (pts r1 r2 r3)).length, ?_, lf Q N (pts r1 r2 r3), List.Pairwise.filter _ (pts_nd r1 r2 r3), fun v => ?_, rfl⟩
  · unfold fX7_takenNow
    rw [zi_wide ⟨by omega, by omega⟩, e1, e2, e3]
    simp only [bd1, nm_eq, ← Int64.ofInt_neg]
    rw [g1, g2]
    rfl
  · unfold lf
    rw [List.mem_filter, decide_eq_true_eq]
    refine ⟨fun h => h.2, fun h => ⟨(pts_mem b1.1 b2.1 b3.1 v).mpr ⟨c1 v (by omega), c2 v (by omega), c3 v (by omega)⟩, h⟩⟩
/-- the least form is one that no sum makes shorter -/
theorem least_S {q L : F6} {T : T9} {n : Nat} (hp : qf_pd q) (h : qf_least q L T n) : qr_S L ∧ qf_pd L ∧ qf_disc L = qf_disc q ∧ 0 < n ∧ qf_gl T ∧ qf_trn q T = L := by
  obtain ⟨h1, l, h2, h3, h4, h5, h6⟩ := h
  obtain ⟨hT, eT⟩ := (h3 T).mp h5
  have hpL : qf_pd L := by rw [← eT]; exact qf_pd_trn hp hT
  have hmin : ∀ N, qf_gl N → lx_lt (l6 (qf_trn L N)) (l6 L) = false := by
    intro N hN
    rw [← eT, qf_trn_trn, eT]
    exact h1 _ (qf_gl_mul hN hT)
  refine ⟨?_, hpL, by rw [← eT, qf_disc_trn, qf_gl_sq hT, Int.one_mul], by rw [← h4]; exact List.length_pos_of_mem h5, hT, eT⟩
  have p1 := hpL.1
  obtain ⟨a, b, c, d, e, f⟩ := L
  have i0 : 0 ≤ a + f := by
    have k := hmin ((1, 0, 0), (1, 1, 0), (0, 0, 1)) (Or.inl (by decide))
    simp only [l6, qf_trn, qf_val, lx_lt, Bool.or_eq_false_iff, Bool.and_eq_false_iff, decide_eq_false_iff_not, or_true, and_true] at k
    have k2 := k.2
    clear k hmin h1 h3 h6
    omega
  have i1 : 0 ≤ a + e := by
    have k := hmin ((1, 0, 0), (0, 1, 0), (1, 0, 1)) (Or.inl (by decide))
    simp only [l6, qf_trn, qf_val, lx_lt, Bool.or_eq_false_iff, Bool.and_eq_false_iff, decide_eq_false_iff_not, or_true, and_true] at k
    have k2 := k.2
    clear k hmin h1 h3 h6
    omega
  have i2 : 0 ≤ b + d := by
    have k := hmin ((1, 0, 0), (0, 1, 0), (0, 1, 1)) (Or.inl (by decide))
    simp only [l6, qf_trn, qf_val, lx_lt, Bool.or_eq_false_iff, Bool.and_eq_false_iff, decide_eq_false_iff_not, or_true, and_true] at k
    have k2 := k.2
    clear k hmin h1 h3 h6
    omega
  have i3 : 0 ≤ a - f := by
    have k := hmin ((1, 0, 0), (-1, 1, 0), (0, 0, 1)) (Or.inl (by decide))
    simp only [l6, qf_trn, qf_val, lx_lt, Bool.or_eq_false_iff, Bool.and_eq_false_iff, decide_eq_false_iff_not, or_true, and_true] at k
    have k2 := k.2
    clear k hmin h1 h3 h6
    omega
  have i4 : 0 ≤ a - e := by
    have k := hmin ((1, 0, 0), (0, 1, 0), (-1, 0, 1)) (Or.inl (by decide))
    simp only [l6, qf_trn, qf_val, lx_lt, Bool.or_eq_false_iff, Bool.and_eq_false_iff, decide_eq_false_iff_not, or_true, and_true] at k
    have k2 := k.2
    clear k hmin h1 h3 h6
    omega
  have i5 : 0 ≤ b - d := by
    have k := hmin ((1, 0, 0), (0, 1, 0), (0, -1, 1)) (Or.inl (by decide))
    simp only [l6, qf_trn, qf_val, lx_lt, Bool.or_eq_false_iff, Bool.and_eq_false_iff, decide_eq_false_iff_not, or_true, and_true] at k
    have k2 := k.2
    clear k hmin h1 h3 h6
    omega
  have i6 : 0 ≤ a + b + e + d + f := by
    have k := hmin ((1, 0, 0), (0, 1, 0), (1, 1, 1)) (Or.inl (by decide))
    simp only [l6, qf_trn, qf_val, lx_lt, Bool.or_eq_false_iff, Bool.and_eq_false_iff, decide_eq_false_iff_not, or_true, and_true] at k
    have k2 := k.2
    clear k hmin h1 h3 h6
    omega
  have i7 : 0 ≤ a + b + e - d - f := by
    have k := hmin ((1, 0, 0), (0, 1, 0), (1, -1, 1)) (Or.inl (by decide))
    simp only [l6, qf_trn, qf_val, lx_lt, Bool.or_eq_false_iff, Bool.and_eq_false_iff, decide_eq_false_iff_not, or_true, and_true] at k
    have k2 := k.2
    clear k hmin h1 h3 h6
    omega
  have i8 : 0 ≤ a + b - e + d - f := by
    have k := hmin ((1, 0, 0), (0, 1, 0), (-1, 1, 1)) (Or.inl (by decide))
    simp only [l6, qf_trn, qf_val, lx_lt, Bool.or_eq_false_iff, Bool.and_eq_false_iff, decide_eq_false_iff_not, or_true, and_true] at k
    have k2 := k.2
    clear k hmin h1 h3 h6
    omega
  have i9 : 0 ≤ a + b - e - d + f := by
    have k := hmin ((1, 0, 0), (0, 1, 0), (-1, -1, 1)) (Or.inl (by decide))
    simp only [l6, qf_trn, qf_val, lx_lt, Bool.or_eq_false_iff, Bool.and_eq_false_iff, decide_eq_false_iff_not, or_true, and_true] at k
    have k2 := k.2
    clear k hmin h1 h3 h6
    omega
  have i20 : a ≤ b := by
    have k := hmin ((0, 1, 0), (1, 0, 0), (0, 0, 1)) (Or.inr (by decide))
    simp only [l6, qf_trn, qf_val, lx_lt, Bool.or_eq_false_iff, Bool.and_eq_false_iff, decide_eq_false_iff_not, or_true, and_true] at k
    have k2 := k.1
    clear k hmin h1 h3 h6
    omega
  have i21 : b ≤ c := by
    have k := hmin ((1, 0, 0), (0, 0, 1), (0, 1, 0)) (Or.inr (by decide))
    simp only [l6, qf_trn, qf_val, lx_lt, Bool.or_eq_false_iff, Bool.and_eq_false_iff, decide_eq_false_iff_not, or_true, and_true] at k
    have k2 := k.2
    clear k hmin h1 h3 h6
    omega
  clear hmin h1 h3 h6
  simp only [qr_S]
  refine ⟨p1, ?_, ?_, ⟨?_, ?_⟩, ⟨?_, ?_⟩, ⟨?_, ?_⟩, ?_, ?_, ?_, ?_⟩ <;> omega
