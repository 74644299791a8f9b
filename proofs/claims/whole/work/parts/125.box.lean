/-! the class's Reducer: the box, and one table of it looked at -/
def bv (m : Nat) : V3 := ((m : Int) / 9 - 1, (m : Int) / 3 % 3 - 1, (m : Int) % 3 - 1)
def bxA (r : Nat → Int32) : Prop := ∀ m, m < 27 → av r (3 * m) (bv m)
theorem bv_box (m : Nat) (h : m < 27) : qr_bx (bv m) := by simp only [qr_bx, bv]; omega
theorem bv_inj {m n : Nat} (h : bv m = bv n) : m = n := by simp only [bv, Prod.mk.injEq] at h; omega
theorem bv_ex {v : V3} (h : qr_bx v) : ∃ m, m < 27 ∧ bv m = v := by
  obtain ⟨x, y, z⟩ := v
  simp only [qr_bx] at h
  refine ⟨(9 * (x + 1) + 3 * (y + 1) + (z + 1)).toNat, by omega, ?_⟩
  simp only [bv, Prod.mk.injEq]
  omega
theorem x3_f30 (k : (Nat → Int32) → Option ((Nat → Int32) × (Nat → Int32))) {m j : Nat} (hm : m < 27) (hj : j < 3) (box r img : Nat → Int32) (n : Nat) : fX3_fillBox_L30 k (ix m) box r (n + 1) (ix j) img = fX3_fillBox_L30 k (ix m) box r n (ix (j + 1)) (upd img (3 * m + j) (box (3 * m) * r j + box (3 * m + 1) * r (3 + j) + box (3 * m + 2) * r (6 + j))) := by
  rw [fX3_fillBox_L30]
  simp only [nm_eq, ix_1, ix_2, ix_3, ix_6, ix_mul, ix_add]
  rw [if_neg (by rw [ix_le (by omega) (by omega)]; omega), if_pos (ix_ok (by omega) (by decide)), if_pos (ix_ok (by omega) (by decide)), if_pos (ix_ok (by omega) (by decide)), if_pos (ix_ok (by omega) (by decide)), if_pos (ix_ok (by omega) (by decide)), if_pos (ix_ok (by omega) (by decide)), if_pos (ix_ok (by omega) (by decide))]
  rw [ix_nat (a := 3 * m) (by omega), ix_nat (a := 3 * m + 1) (by omega), ix_nat (a := 3 * m + 2) (by omega), ix_nat (a := 3 * m + j) (by omega), ix_nat (a := j) (by omega), ix_nat (a := 3 + j) (by omega), ix_nat (a := 6 + j) (by omega)]
theorem upd_s (f : Nat → Int32) (k : Nat) (x : Int32) : upd f k x k = x := if_pos rfl
theorem upd_n (f : Nat → Int32) {k j : Nat} (x : Int32) (h : j ≠ k) : upd f k x j = f j := if_neg h
theorem x3_fill {s r box : Nat → Int32} {q : F6} {M : T9} (hs : a6 s q) (hr : a9 r M) (hbx : bxA box) (fu : Nat) : ∀ (n m : Nat) (w img : Nat → Int32), 28 ≤ m + n → m ≤ 27 → (∀ i, i < m → w i = Int32.ofInt (qf_val q (bv i))) → (∀ i, i < m → av img (3 * i) (qf_lin M (bv i))) → ∃ w' i', fX3_fillBox_L2 s box r (fu + 4) n (ix m) w img = some (w', i') ∧ (∀ i, i < 27 → w' i = Int32.ofInt (qf_val q (bv i))) ∧ ∀ i, i < 27 → av i' (3 * i) (qf_lin M (bv i)) := by
  intro n
  induction n with
  | zero =>
    intro m w img h h27 hw hi
    omega
  | succ n ih =>
    intro m w img h h27 hw hi
    by_cases hm : m < 27
    · rw [fX3_fillBox_L2, if_neg (by rw [ix_27, ix_le (by omega) (by omega)]; omega), ix_3, ix_mul, x4_atRow hs (hbx m hm) (by omega) (by decide)]
      simp only [bd1, nm_eq]
      rw [if_pos (ix_ok (by omega) (by decide)), ix_nat (by omega), ix_0, x3_f30 _ hm (by omega), x3_f30 _ hm (by omega), x3_f30 _ hm (by omega), fX3_fillBox_L30, if_pos (by rw [ix_3, ix_le (by omega) (by omega)]; omega), ix_1, ix_add]
      refine ih (m + 1) _ _ (by omega) (by omega) ?_ ?_
      · intro i hi9
        by_cases e : i = m
        · subst e; rw [upd_s]
        · rw [upd_n _ _ e]; exact hw i (by omega)
      · intro i hi9
        by_cases e : i = m
        · subst e
          obtain ⟨g0, g1, g2⟩ := hbx i hm
          obtain ⟨h0, h1, h2, h3, h4, h5, h6, h7, h8⟩ := hr
          refine ⟨?_, ?_, ?_⟩
          · rw [upd_n _ _ (by omega), upd_n _ _ (by omega), Nat.add_zero, upd_s, g0, g1, g2, h0, h3, h6]
            simp only [qf_lin, Int32.ofInt_add, Int32.ofInt_mul]
          · rw [upd_n _ _ (by omega), upd_s, g0, g1, g2, h1, h4, h7]
            simp only [qf_lin, Int32.ofInt_add, Int32.ofInt_mul]
          · rw [upd_s, g0, g1, g2, h2, h5, h8]
            simp only [qf_lin, Int32.ofInt_add, Int32.ofInt_mul]
        · obtain ⟨g0, g1, g2⟩ := hi i (by omega)
          refine ⟨?_, ?_, ?_⟩
          · rw [upd_n _ _ (by omega), upd_n _ _ (by omega), upd_n _ _ (by omega)]; exact g0
          · rw [upd_n _ _ (by omega), upd_n _ _ (by omega), upd_n _ _ (by omega)]; exact g1
          · rw [upd_n _ _ (by omega), upd_n _ _ (by omega), upd_n _ _ (by omega)]; exact g2
    · have e : m = 27 := by omega
      subst e
      rw [fX3_fillBox_L2, if_pos (by rw [ix_27, ix_le (by omega) (by omega)]; omega)]
      exact ⟨w, img, rfl, hw, hi⟩
theorem x6_cmp {a b : Int} (ha : rI a) (hb : rI b) : fJ6_compare_7cf53 (Int32.ofInt a) (Int32.ofInt b) = some (if a < b then -1 else if a = b then 0 else 1) := by
  unfold fJ6_compare_7cf53
  have k1 := zi_le hb ha
  have k2 := zi_eq ha hb
  simp only [nm_eq]
  rcases qf_tri a b with h | h | h
  · rw [if_neg (fun g => by have := k1.mp g; omega), if_pos h]
  · rw [if_pos (k1.mpr (by omega)), if_pos (k2.mpr h), if_neg (by omega), if_pos h]
  · rw [if_pos (k1.mpr (by omega)), if_neg (fun g => by have := k2.mp g; omega), if_neg (by omega), if_neg (by omega)]
theorem x3_cmp {b : Nat → Int32} {d e f d' e' f' : Int} (h3 : b 3 = Int32.ofInt d') (h4 : b 4 = Int32.ofInt e') (h5 : b 5 = Int32.ofInt f') (rd : rI d) (re : rI e) (rf : rI f) (rd' : rI d') (re' : rI e') (rf' : rI f') : fX3_compareTouches b (Int32.ofInt d) (Int32.ofInt e) (Int32.ofInt f) = some (if lx_lt [d, e, f] [d', e', f'] = true then -1 else if [d, e, f] = [d', e', f'] then 0 else 1) := by
  unfold fX3_compareTouches
  simp only [nm_eq, h3, h4, h5, x6_cmp rd rd', x6_cmp re re', x6_cmp rf rf', bd1, zi_eq rd rd', zi_eq re re', lx_lt, Bool.or_eq_true, decide_eq_true_eq, Bool.and_eq_true, List.cons.injEq, and_true, Bool.false_eq_true, and_false, or_false]
  grind
theorem x3_ahs {x y : Int} (rx : rI x) (ry : rI y) {xs ys : List Int} {rest : Option Int32} (h : rest = some (if lx_lt xs ys = true then 1 else 0)) : (if Int32.ofInt x = Int32.ofInt y then rest else (if Int32.ofInt y ≤ Int32.ofInt x then some 0 else some 1)) = some (if lx_lt (x :: xs) (y :: ys) = true then 1 else 0) := by
  simp only [zi_eq rx ry, zi_le ry rx, lx_lt, Bool.or_eq_true, decide_eq_true_eq, Bool.and_eq_true]
  by_cases g : x = y
  · rw [if_pos g, h]
    congr 1
    refine if_cg ?_
    constructor
    · exact fun t => Or.inr ⟨g, t⟩
    · rintro (t | t)
      · omega
      · exact t.2
  · rw [if_neg g]
    by_cases g2 : y ≤ x
    · rw [if_pos g2, if_neg (by rintro (t | t) <;> omega)]
    · rw [if_neg g2, if_pos (Or.inl (by omega))]
def k60_ (b : Nat → Int32) (p x : Int32) : Option Int32 := if okI p 9 then nm (fun (s_8 : Int32) => if s_8 = 0 ∨ s_8 = 1 then some s_8 else none) (fun (k77 : Int32 → Option Int32) => if (b p.toNatClampNeg) ≤ x then ((k77 (0 : Int32))) else ((k77 (1 : Int32)))) else none
theorem x3_ah0 {i j k : Nat} (hi : i + 2 < 81) (hj : j + 2 < 81) (hk : k + 2 < 81) (img b : Nat → Int32) (n : Nat) : fX3_isAhead_L3 img b (k60_ b) (ix k) (ix j) (ix i) (n + 1) 0 = if img (i + 0) = b 0 then fX3_isAhead_L3 img b (k60_ b) (ix k) (ix j) (ix i) n 1 else (if b 0 ≤ img (i + 0) then some 0 else some 1) := by
  have e9 : ix i + ((0 : Int32) - 0 / 3 * 3) = ix (i + 0) := ix_add i 0
  rw [fX3_isAhead_L3, if_neg (by decide)]
  simp only [nm_eq]
  rw [if_neg (by decide), e9, if_pos (ix_ok (by omega) (by decide)), if_pos (by decide), ix_nat (by omega)]
  rfl
theorem x3_ah1 {i j k : Nat} (hi : i + 2 < 81) (hj : j + 2 < 81) (hk : k + 2 < 81) (img b : Nat → Int32) (n : Nat) : fX3_isAhead_L3 img b (k60_ b) (ix k) (ix j) (ix i) (n + 1) 1 = if img (i + 1) = b 1 then fX3_isAhead_L3 img b (k60_ b) (ix k) (ix j) (ix i) n 2 else (if b 1 ≤ img (i + 1) then some 0 else some 1) := by
  have e9 : ix i + ((1 : Int32) - 1 / 3 * 3) = ix (i + 1) := ix_add i 1
  rw [fX3_isAhead_L3, if_neg (by decide)]
  simp only [nm_eq]
  rw [if_neg (by decide), e9, if_pos (ix_ok (by omega) (by decide)), if_pos (by decide), ix_nat (by omega)]
  rfl
theorem x3_ah2 {i j k : Nat} (hi : i + 2 < 81) (hj : j + 2 < 81) (hk : k + 2 < 81) (img b : Nat → Int32) (n : Nat) : fX3_isAhead_L3 img b (k60_ b) (ix k) (ix j) (ix i) (n + 1) 2 = if img (i + 2) = b 2 then fX3_isAhead_L3 img b (k60_ b) (ix k) (ix j) (ix i) n 3 else (if b 2 ≤ img (i + 2) then some 0 else some 1) := by
  have e9 : ix i + ((2 : Int32) - 2 / 3 * 3) = ix (i + 2) := ix_add i 2
  rw [fX3_isAhead_L3, if_neg (by decide)]
  simp only [nm_eq]
  rw [if_neg (by decide), e9, if_pos (ix_ok (by omega) (by decide)), if_pos (by decide), ix_nat (by omega)]
  rfl
theorem x3_ah3 {i j k : Nat} (hi : i + 2 < 81) (hj : j + 2 < 81) (hk : k + 2 < 81) (img b : Nat → Int32) (n : Nat) : fX3_isAhead_L3 img b (k60_ b) (ix k) (ix j) (ix i) (n + 1) 3 = if img (j + 0) = b 3 then fX3_isAhead_L3 img b (k60_ b) (ix k) (ix j) (ix i) n 4 else (if b 3 ≤ img (j + 0) then some 0 else some 1) := by
  have e9 : ix j + ((3 : Int32) - 3 / 3 * 3) = ix (j + 0) := ix_add j 0
  rw [fX3_isAhead_L3, if_neg (by decide)]
  simp only [nm_eq]
  rw [if_pos (by decide), if_neg (by decide), e9, if_pos (ix_ok (by omega) (by decide)), if_pos (by decide), ix_nat (by omega)]
  rfl
theorem x3_ah4 {i j k : Nat} (hi : i + 2 < 81) (hj : j + 2 < 81) (hk : k + 2 < 81) (img b : Nat → Int32) (n : Nat) : fX3_isAhead_L3 img b (k60_ b) (ix k) (ix j) (ix i) (n + 1) 4 = if img (j + 1) = b 4 then fX3_isAhead_L3 img b (k60_ b) (ix k) (ix j) (ix i) n 5 else (if b 4 ≤ img (j + 1) then some 0 else some 1) := by
  have e9 : ix j + ((4 : Int32) - 4 / 3 * 3) = ix (j + 1) := ix_add j 1
  rw [fX3_isAhead_L3, if_neg (by decide)]
  simp only [nm_eq]
  rw [if_pos (by decide), if_neg (by decide), e9, if_pos (ix_ok (by omega) (by decide)), if_pos (by decide), ix_nat (by omega)]
  rfl
theorem x3_ah5 {i j k : Nat} (hi : i + 2 < 81) (hj : j + 2 < 81) (hk : k + 2 < 81) (img b : Nat → Int32) (n : Nat) : fX3_isAhead_L3 img b (k60_ b) (ix k) (ix j) (ix i) (n + 1) 5 = if img (j + 2) = b 5 then fX3_isAhead_L3 img b (k60_ b) (ix k) (ix j) (ix i) n 6 else (if b 5 ≤ img (j + 2) then some 0 else some 1) := by
  have e9 : ix j + ((5 : Int32) - 5 / 3 * 3) = ix (j + 2) := ix_add j 2
  rw [fX3_isAhead_L3, if_neg (by decide)]
  simp only [nm_eq]
  rw [if_pos (by decide), if_neg (by decide), e9, if_pos (ix_ok (by omega) (by decide)), if_pos (by decide), ix_nat (by omega)]
  rfl
theorem x3_ah6 {i j k : Nat} (hi : i + 2 < 81) (hj : j + 2 < 81) (hk : k + 2 < 81) (img b : Nat → Int32) (n : Nat) : fX3_isAhead_L3 img b (k60_ b) (ix k) (ix j) (ix i) (n + 1) 6 = if img (k + 0) = b 6 then fX3_isAhead_L3 img b (k60_ b) (ix k) (ix j) (ix i) n 7 else (if b 6 ≤ img (k + 0) then some 0 else some 1) := by
  have e9 : ix k + ((6 : Int32) - 6 / 3 * 3) = ix (k + 0) := ix_add k 0
  rw [fX3_isAhead_L3, if_neg (by decide)]
  simp only [nm_eq]
  rw [if_pos (by decide), if_pos (by decide), e9, if_pos (ix_ok (by omega) (by decide)), if_pos (by decide), ix_nat (by omega)]
  rfl
theorem x3_ah7 {i j k : Nat} (hi : i + 2 < 81) (hj : j + 2 < 81) (hk : k + 2 < 81) (img b : Nat → Int32) (n : Nat) : fX3_isAhead_L3 img b (k60_ b) (ix k) (ix j) (ix i) (n + 1) 7 = if img (k + 1) = b 7 then fX3_isAhead_L3 img b (k60_ b) (ix k) (ix j) (ix i) n 8 else (if b 7 ≤ img (k + 1) then some 0 else some 1) := by
  have e9 : ix k + ((7 : Int32) - 7 / 3 * 3) = ix (k + 1) := ix_add k 1
  rw [fX3_isAhead_L3, if_neg (by decide)]
  simp only [nm_eq]
  rw [if_pos (by decide), if_pos (by decide), e9, if_pos (ix_ok (by omega) (by decide)), if_pos (by decide), ix_nat (by omega)]
  rfl
theorem x3_ah8 {i j k : Nat} (hi : i + 2 < 81) (hj : j + 2 < 81) (hk : k + 2 < 81) (img b : Nat → Int32) (n : Nat) : fX3_isAhead_L3 img b (k60_ b) (ix k) (ix j) (ix i) (n + 1) 8 = if img (k + 2) = b 8 then fX3_isAhead_L3 img b (k60_ b) (ix k) (ix j) (ix i) n 9 else (if b 8 ≤ img (k + 2) then some 0 else some 1) := by
  have e9 : ix k + ((8 : Int32) - 8 / 3 * 3) = ix (k + 2) := ix_add k 2
  rw [fX3_isAhead_L3, if_neg (by decide)]
  simp only [nm_eq]
  rw [if_pos (by decide), if_pos (by decide), e9, if_pos (ix_ok (by omega) (by decide)), if_pos (by decide), ix_nat (by omega)]
  rfl
theorem x3_ahead {img b : Nat → Int32} {u v w : V3} {T : T9} {i j k : Nat} (hi : i + 2 < 81) (hj : j + 2 < 81) (hk : k + 2 < 81) (hu : av img i u) (hv : av img j v) (hw : av img k w) (hb : a9 b T) (rM : ∀ x ∈ l9 (u, v, w), rI x) (rT : ∀ x ∈ l9 T, rI x) (n : Nat) : fX3_isAhead (n + 10) img b (ix i) (ix j) (ix k) = some (if lx_lt (l9 (u, v, w)) (l9 T) = true then 1 else 0) := by
  show fX3_isAhead_L3 img b (k60_ b) (ix k) (ix j) (ix i) (n + 10) 0 = _
  obtain ⟨h0, h1, h2, h3, h4, h5, h6, h7, h8⟩ := hb
  obtain ⟨u0, u1, u2⟩ := hu
  obtain ⟨v0, v1, v2⟩ := hv
  obtain ⟨w0, w1, w2⟩ := hw
  rw [x3_ah0 hi hj hk, x3_ah1 hi hj hk, x3_ah2 hi hj hk, x3_ah3 hi hj hk, x3_ah4 hi hj hk, x3_ah5 hi hj hk, x3_ah6 hi hj hk, x3_ah7 hi hj hk, x3_ah8 hi hj hk]
  simp only [Nat.add_zero, u0, u1, u2, v0, v1, v2, w0, w1, w2, h0, h1, h2, h3, h4, h5, h6, h7, h8]
  unfold l9
  simp only [l9, List.mem_cons, List.not_mem_nil, or_false, forall_eq_or_imp, forall_eq] at rM rT
  obtain ⟨m0, m1, m2, m3, m4, m5, m6, m7, m8⟩ := rM
  obtain ⟨t0, t1, t2, t3, t4, t5, t6, t7, t8⟩ := rT
  exact x3_ahs m0 t0 (x3_ahs m1 t1 (x3_ahs m2 t2 (x3_ahs m3 t3 (x3_ahs m4 t4 (x3_ahs m5 t5 (x3_ahs m6 t6 (x3_ahs m7 t7 (x3_ahs m8 t8 rfl))))))))
