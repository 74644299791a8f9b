/-! the class's Reducer.settle leaves the least form, the first table and their count -/
theorem cI_len (q : F6) (α β γ : Int) : ∀ is : List Nat, (cI_ q α β γ is).length ≤ 729 * is.length
  | [] => by simp [cI_]
  | i :: is => by
    have h1 := cI_len q α β γ is
    have h2 := cJ_len q β γ i (List.range' 0 27)
    unfold cI_ at h1 ⊢
    rw [List.flatMap_cons, List.length_append, List.length_cons]
    rw [List.length_range'] at h2
    split
    · omega
    · simp only [List.length_nil]; omega
theorem qe_x {A V x : Int} (h : x * x ≤ A * V) (hA : A ≤ 640000000000) (hV : 0 ≤ V) (hV' : V ≤ 400000) : -506000000 ≤ x ∧ x ≤ 506000000 := by
  have h1 : 0 ≤ (640000000000 - A) * V := Int.mul_nonneg (by omega) hV
  have h2 : (640000000000 - A) * V = 640000000000 * V - A * V := by grind
  constructor
  · rcases qf_lg x (-506000000) with g | g
    · have : 0 < (-x - 506000000) * (-x + 506000000) := Int.mul_pos (by omega) (by omega)
      have : (-x - 506000000) * (-x + 506000000) = x * x - 256036000000000000 := by grind
      omega
    · exact g
  · rcases qf_lg 506000000 x with g | g
    · have : 0 < (x - 506000000) * (x + 506000000) := Int.mul_pos (by omega) (by omega)
      have : (x - 506000000) * (x + 506000000) = x * x - 256036000000000000 := by grind
      omega
    · exact g
theorem qe_A {b c d : Int} (hb : 0 < b) (hc : 0 < c) (hb' : b ≤ 400000) (hc' : c ≤ 400000) : 4 * b * c - d * d ≤ 640000000000 := by
  have h1 : 0 ≤ (400000 - b) * c := Int.mul_nonneg (by omega) (by omega)
  have h2 : (400000 - b) * c = 400000 * c - b * c := by grind
  have h3 : 4 * b * c = 4 * (b * c) := by grind
  have := qf_sq d
  omega
theorem qe_bound {q : F6} (hp : qf_pd q) (hb : qb q) {v : V3} (hv : qf_val q v ≤ 400000) : (-506000000 ≤ v.1 ∧ v.1 ≤ 506000000) ∧ (-506000000 ≤ v.2.1 ∧ v.2.1 ≤ 506000000) ∧ (-506000000 ≤ v.2.2 ∧ v.2.2 ≤ 506000000) := by
  have hx := qf_reach_x hp v
  have hy := qf_reach_y hp v
  have hz := qf_reach_z hp v
  have hD : 0 < qf_disc q := hp.2.2
  have hV : 0 ≤ qf_val q v := by
    by_cases e : v = (0, 0, 0)
    · rw [e]; simp [qf_val]
    · exact Int.le_of_lt (qf_pdv_of hp v e)
  have key : ∀ x : Int, x * x ≤ qf_disc q * (x * x) := fun x => by
    have := Int.mul_nonneg (by omega : (0 : Int) ≤ qf_disc q - 1) (qf_sq x)
    have e : (qf_disc q - 1) * (x * x) = qf_disc q * (x * x) - x * x := by grind
    omega
  obtain ⟨b1, b2, b3, _⟩ := hb
  refine ⟨qe_x (Int.le_trans (key _) hx) (qe_A b2.1 b3.1 b2.2 b3.2) hV hv, qe_x (Int.le_trans (key _) hy) (qe_A b1.1 b3.1 b1.2 b3.2) hV hv, qe_x (Int.le_trans (key _) hz) (qe_A b1.1 b2.1 b1.2 b2.2) hV hv⟩
theorem bx3 {x a : Int} (hx : -1 ≤ x ∧ x ≤ 1) : (x * a = a ∨ x * a = 0 ∨ x * a = -a) := by
  have : x = -1 ∨ x = 0 ∨ x = 1 := by omega
  rcases this with e | e | e <;> subst e <;> omega
theorem bx_lin {M : T9} {v : V3} (hv : qr_bx v) (hM : ∀ t ∈ l9 M, -506000000 ≤ t ∧ t ≤ 506000000) : rI (qf_lin M v).1 ∧ rI (qf_lin M v).2.1 ∧ rI (qf_lin M v).2.2 := by
  obtain ⟨⟨m0, m1, m2⟩, ⟨m3, m4, m5⟩, ⟨m6, m7, m8⟩⟩ := M
  obtain ⟨x, y, z⟩ := v
  simp only [qr_bx] at hv
  simp only [l9, List.mem_cons, List.not_mem_nil, or_false, forall_eq_or_imp, forall_eq] at hM
  simp only [qf_lin]
  have k : ∀ u a : Int, -1 ≤ u ∧ u ≤ 1 → -506000000 ≤ a ∧ a ≤ 506000000 → -506000000 ≤ u * a ∧ u * a ≤ 506000000 := by
    intro u a hu ha
    have := bx3 (a := a) hu
    omega
  obtain ⟨g0, g1, g2, g3, g4, g5, g6, g7, g8⟩ := hM
  have k0 := k x m0 hv.1 g0
  have k1 := k x m1 hv.1 g1
  have k2 := k x m2 hv.1 g2
  have k3 := k y m3 hv.2.1 g3
  have k4 := k y m4 hv.2.1 g4
  have k5 := k y m5 hv.2.1 g5
  have k6 := k z m6 hv.2.2 g6
  have k7 := k z m7 hv.2.2 g7
  have k8 := k z m8 hv.2.2 g8
  refine ⟨⟨?_, ?_⟩, ⟨?_, ?_⟩, ⟨?_, ?_⟩⟩ <;> omega
theorem bx_val {q : F6} (hR : qr_R q) (h1 : q.1 ≤ 400000) (h2 : q.2.1 ≤ 400000) (h3 : q.2.2.1 ≤ 400000) {v w : V3} (hv : qr_bx v) (hw : qr_bx w) : rI (qf_val q v) ∧ rI (qf_tch q v w) := by
  obtain ⟨a, b, c, d, e, f⟩ := q
  obtain ⟨x, y, z⟩ := v
  obtain ⟨x', y', z'⟩ := w
  simp only [qr_R, qr_bx] at *
  have k : ∀ u v t : Int, -1 ≤ u ∧ u ≤ 1 → -1 ≤ v ∧ v ≤ 1 → -400000 ≤ t → t ≤ 400000 → -400000 ≤ t * u * v ∧ t * u * v ≤ 400000 := by
    intro u v t hu hv h h'
    have e1 : t * u * v = u * (v * t) := by grind
    rw [e1]
    have := bx3 (a := t) hv
    have := bx3 (a := v * t) hu
    omega
  obtain ⟨hp, hf, he, hd, _⟩ := hR
  have k1 := k x x a hv.1 hv.1 (by omega) (by omega)
  have k2 := k y y b hv.2.1 hv.2.1 (by omega) (by omega)
  have k3 := k z z c hv.2.2 hv.2.2 (by omega) (by omega)
  have k4 := k y z d hv.2.1 hv.2.2 (by omega) (by omega)
  have k5 := k x z e hv.1 hv.2.2 (by omega) (by omega)
  have k6 := k x y f hv.1 hv.2.1 (by omega) (by omega)
  have j1 := k x x' a hv.1 hw.1 (by omega) (by omega)
  have j2 := k y y' b hv.2.1 hw.2.1 (by omega) (by omega)
  have j3 := k z z' c hv.2.2 hw.2.2 (by omega) (by omega)
  have j4 := k y z' d hv.2.1 hw.2.2 (by omega) (by omega)
  have j5 := k z y' d hv.2.2 hw.2.1 (by omega) (by omega)
  have j6 := k x z' e hv.1 hw.2.2 (by omega) (by omega)
  have j7 := k z x' e hv.2.2 hw.1 (by omega) (by omega)
  have j8 := k x y' f hv.1 hw.2.1 (by omega) (by omega)
  have j9 := k y x' f hv.2.1 hw.1 (by omega) (by omega)
  constructor
  · simp only [qf_val]; constructor <;> omega
  · simp only [qf_tch]
    have e1 : 2 * a * x * x' + 2 * b * y * y' + 2 * c * z * z' + d * (y * z' + z * y') + e * (x * z' + z * x') + f * (x * y' + y * x') = 2 * (a * x * x') + 2 * (b * y * y') + 2 * (c * z * z') + (d * y * z' + d * z * y') + (e * x * z' + e * z * x') + (f * x * y' + f * y * x') := by grind
    rw [e1]
    constructor <;> omega
/-- the tables that turn a form into one with the three least values, out of those of a form that no sum makes shorter -/
theorem ls_box {q : F6} {E : T9} (hE : qf_gl E) (hR : qr_R (qf_trn q E)) : ∃ α β γ : Int, α = min (qf_trn q E).1 (min (qf_trn q E).2.1 (qf_trn q E).2.2.1) ∧ γ = max (qf_trn q E).1 (max (qf_trn q E).2.1 (qf_trn q E).2.2.1) ∧ α + β + γ = qf_sum (qf_trn q E) ∧ (cI_ (qf_trn q E) α β γ (List.range' 0 27)).map (fun X => qf_mul X E) ≠ [] ∧ (∀ M, M ∈ (cI_ (qf_trn q E) α β γ (List.range' 0 27)).map (fun X => qf_mul X E) ↔ qf_gl M ∧ qf_val q M.1 = α ∧ qf_val q M.2.1 = β ∧ qf_val q M.2.2 = γ) ∧ ∀ M, qf_gl M → qr_le3 α β γ (qf_val q M.1) (qf_val q M.2.1) (qf_val q M.2.2) := by
  obtain ⟨P, hP, hPb, hS, hm, hM, hsum⟩ := qr_sort hR
  refine ⟨(qf_trn (qf_trn q E) P).1, (qf_trn (qf_trn q E) P).2.1, (qf_trn (qf_trn q E) P).2.2.1, hm, hM, hsum, ?_, ?_, ?_⟩
  · intro h0
    have hin : P ∈ cI_ (qf_trn q E) (qf_trn (qf_trn q E) P).1 (qf_trn (qf_trn q E) P).2.1 (qf_trn (qf_trn q E) P).2.2.1 (List.range' 0 27) := by
      rw [cI_mem]
      have e := mn_e P
      refine ⟨⟨?_, ?_, ?_⟩, hP, rfl, rfl, rfl⟩
      · rw [← e.1]; exact hPb _ (by simp [qr_bx])
      · rw [← e.2.1]; exact hPb _ (by simp [qr_bx])
      · rw [← e.2.2]; exact hPb _ (by simp [qr_bx])
    have := List.mem_map_of_mem (f := fun X => qf_mul X E) hin
    rw [h0] at this
    cases this
  · intro M
    rw [List.mem_map]
    constructor
    · rintro ⟨N, hN, e⟩
      rw [cI_mem] at hN
      obtain ⟨_, g1, g2, g3, g4⟩ := hN
      rw [← e]
      refine ⟨qf_gl_mul g1 hE, ?_, ?_, ?_⟩
      · rw [← g2, qf_val_trn]; rfl
      · rw [← g3, qf_val_trn]; rfl
      · rw [← g4, qf_val_trn]; rfl
    · rintro ⟨g1, g2, g3, g4⟩
      refine ⟨qf_mul M (qf_inv E), ?_, by simp only [qf_mul_assoc, qf_inv_mul hE, qf_mul_one]⟩
      rw [cI_mem]
      have v1 : qf_val (qf_trn q E) (qf_mul M (qf_inv E)).1 = (qf_trn (qf_trn q E) P).1 := by rw [← g2]; exact mn_val hE M.1
      have v2 : qf_val (qf_trn q E) (qf_mul M (qf_inv E)).2.1 = (qf_trn (qf_trn q E) P).2.1 := by rw [← g3]; exact mn_val hE M.2.1
      have v3 : qf_val (qf_trn q E) (qf_mul M (qf_inv E)).2.2 = (qf_trn (qf_trn q E) P).2.2.1 := by rw [← g4]; exact mn_val hE M.2.2
      have hgl := qf_gl_mul g1 (qf_gl_inv hE)
      refine ⟨?_, hgl, v1, v2, v3⟩
      generalize qf_mul M (qf_inv E) = N at *
      have hb := qr_box hS (M := qf_mul N (qf_inv P)) (qf_gl_mul hgl (qf_gl_inv hP)) (by rw [← v1]; exact mn_val hP N.1) (by rw [← v2]; exact mn_val hP N.2.1) (by rw [← v3]; exact mn_val hP N.2.2)
      have e1 : N = qf_mul (qf_mul N (qf_inv P)) P := by rw [qf_mul_assoc, qf_inv_mul hP, qf_mul_one]
      rw [e1]
      exact ⟨hPb _ hb.1, hPb _ hb.2.1, hPb _ hb.2.2⟩
  · intro M hM
    have := mn_min (q := q) (U := qf_mul P E) (qf_gl_mul hP hE) (by rw [← qf_trn_trn]; exact hS) (M := M) (qf_gl_ne hM)
    rw [← qf_trn_trn] at this
    exact this
theorem x3_L14 (k43 : (Nat → Int32) → Option (Int32 × (Nat → Int32) × (Nat → Int32) × (Nat → Int32) × (Nat → Int32) × (Nat → Int32) × (Nat → Int32))) (r : Nat → Int32) (n : Nat) : ∃ r', fX3_settle_L14 k43 (n + 10) 0 r = k43 r' ∧ a9 r' qf_one := ⟨_, rfl, by refine ⟨?_, ?_, ?_, ?_, ?_, ?_, ?_, ?_, ?_⟩ <;> rfl⟩
theorem zi_min {x y : Int} (hx : rI x) (hy : rI y) : (if Int32.ofInt x < Int32.ofInt y then Int32.ofInt x else Int32.ofInt y) = Int32.ofInt (min y x) := by
  by_cases h : x < y
  · rw [if_pos ((zi_lt hx hy).mpr h)]
    congr 1
    omega
  · rw [if_neg (fun g => h ((zi_lt hx hy).mp g))]
    congr 1
    omega
theorem zi_max {x y : Int} (hx : rI x) (hy : rI y) : (if Int32.ofInt y < Int32.ofInt x then Int32.ofInt x else Int32.ofInt y) = Int32.ofInt (max y x) := by
  by_cases h : y < x
  · rw [if_pos ((zi_lt hy hx).mpr h)]
    congr 1
    omega
  · rw [if_neg (fun g => h ((zi_lt hy hx).mp g))]
    congr 1
    omega
theorem x3_best {s box w i b br : Nat → Int32} {A B C : Int} {F : Nat} (h0 : s 0 = Int32.ofInt A) (h1 : s 1 = Int32.ofInt B) (h2 : s 2 = Int32.ofInt C) (rA : rI A) (rB : rI B) (rC : rI C) : ∃ b5, fX3_search F s box w i b br = fX3_search_L107 w box F s i F (ix 0) 0 b5 br ∧ b5 0 = Int32.ofInt (min A (min B C)) ∧ b5 2 = Int32.ofInt (max A (max B C)) ∧ b5 1 = Int32.ofInt (A + B + C - min A (min B C) - max A (max B C)) := by
  have k1 : (if (s 2) < (s 1) then (s 2) else (s 1)) = Int32.ofInt (min B C) := by rw [h1, h2]; exact zi_min rC rB
  have k2 : (if Int32.ofInt (min B C) < (s 0) then Int32.ofInt (min B C) else (s 0)) = Int32.ofInt (min A (min B C)) := by rw [h0]; exact zi_min ⟨by omega, by omega⟩ rA
  have k3 : (if (s 1) < (s 2) then (s 2) else (s 1)) = Int32.ofInt (max B C) := by rw [h1, h2]; exact zi_max rC rB
  have k4 : (if (s 0) < Int32.ofInt (max B C) then Int32.ofInt (max B C) else (s 0)) = Int32.ofInt (max A (max B C)) := by rw [h0]; exact zi_max ⟨by omega, by omega⟩ rA
  unfold fX3_search
  simp only [nm_eq]
  rw [k1, k2, k3, k4]
  refine ⟨_, rfl, ?_, ?_, ?_⟩
  · simp [upd]
  · simp [upd]
  · simp [upd, h0, h1, h2]
theorem x3_settle {q : F6} (hp : qf_pd q) (h1 : q.1 ≤ 400000) (h2 : q.2.1 ≤ 400000) (h3 : q.2.2.1 ≤ 400000) (hsum : qf_sum q ≤ 999000) {num box : Nat → Int32} (hn : a6 num q) (hbx : bxA box) (s0 r0 w0 i0 b0 br0 : Nat → Int32) {F : Nat} (hF : 1000000 ≤ F) : ∃ t s r w i b br, fX3_settle F s0 r0 box w0 i0 b0 br0 num = some (t, s, r, w, i, b, br) ∧ ∃ L T n, qf_least q L T n ∧ n ≤ 19683 ∧ t = ix n ∧ a6 b L ∧ a9 br T := by
  have hb := qb_of hp h1 h2 h3
  have hs0 : a6 (va_cpy num s0 0 0 6) q := by
    obtain ⟨g0, g1, g2, g3, g4, g5⟩ := hn
    refine ⟨?_, ?_, ?_, ?_, ?_, ?_⟩ <;> simp [va_cpy, *]
  unfold fX3_settle
  simp only [nm_eq]
  obtain ⟨f, rfl⟩ : ∃ f, F = f + 10 := ⟨F - 10, by omega⟩
  obtain ⟨r1, e1, hr1⟩ := x3_L14 (fun r_rows_7 => fX3_settle_L47 (fun r_six_24 r_rows_25 => bd2 (fX3_fillBox (f + 10) r_six_24 r_rows_25 box w0 i0) (fun r_worth_26 r_image_27 => bd3 (fX3_search (f + 10) r_six_24 box r_worth_26 r_image_27 b0 br0) (fun r_ties_28 r_best_29 r_bestRows_30 => some (r_ties_28, r_six_24, r_rows_25, r_worth_26, r_image_27, r_best_29, r_bestRows_30)))) (f + 10) (f + 10) (1 : Int32) (0 : Int32) (va_cpy num s0 0 0 6) r_rows_7) r0 f
  rw [e1]
  obtain ⟨s2, r2, E, ⟨hE, d1, d2, d3, hR⟩, hs2, hr2, e2⟩ := s3_loop (k83 := fun r_six_24 r_rows_25 => bd2 (fX3_fillBox (f + 10) r_six_24 r_rows_25 box w0 i0) (fun r_worth_26 r_image_27 => bd3 (fX3_search (f + 10) r_six_24 box r_worth_26 r_image_27 b0 br0) (fun r_ties_28 r_best_29 r_bestRows_30 => some (r_ties_28, r_six_24, r_rows_25, r_worth_26, r_image_27, r_best_29, r_bestRows_30)))) (f + 6) (qf_sum q).toNat q qf_one _ r1 (f + 10) 0 hp hb hs0 hr1 (by omega) (by omega) (by omega) (by omega)
  have e0 : (0 : Int32) = Int32.ofInt 0 := rfl
  rw [e0, e2]
  rw [qf_mul_one] at hr2
  have hp' := qf_pd_trn hp hE
  obtain ⟨w3, i3, e3, hw3, hi3⟩ := x3_fill hs2 hr2 hbx (f + 6) (f + 10) 0 w0 i0 (by omega) (by omega) (fun i h => by omega) (fun i h => by omega)
  have e3' : fX3_fillBox (f + 10) s2 r2 box w0 i0 = some (w3, i3) := e3
  rw [e3']
  simp only [bd2]
  obtain ⟨α, β, γ, hα, hγ, hsm, hne, hmem, hmin⟩ := ls_box hE hR
  have hR' := hR
  obtain ⟨⟨p1, p2, p3⟩, _⟩ := hR'
  have ra : rI α := ⟨by omega, by omega⟩
  have rg : rI γ := ⟨by omega, by omega⟩
  have rb : rI β := by unfold qf_sum at hsm; exact ⟨by omega, by omega⟩
  have hent : ∀ t ∈ l9 E, -506000000 ≤ t ∧ t ≤ 506000000 := by
    have q1 := qe_bound hp hb (v := E.1) (by have : qf_val q E.1 = (qf_trn q E).1 := rfl; omega)
    have q2 := qe_bound hp hb (v := E.2.1) (by have : qf_val q E.2.1 = (qf_trn q E).2.1 := rfl; omega)
    have q3 := qe_bound hp hb (v := E.2.2) (by have : qf_val q E.2.2 = (qf_trn q E).2.2.1 := rfl; omega)
    simp only [l9, List.mem_cons, List.not_mem_nil, or_false, forall_eq_or_imp, forall_eq]
    exact ⟨q1.1, q1.2.1, q1.2.2, q2.1, q2.2.1, q2.2.2, q3.1, q3.2.1, q3.2.2⟩
  have hC : sr_C q E s2 box w3 i3 := by
    refine ⟨hs2, hbx, hw3, hi3, fun i hi => (bx_val hR (by omega) (by omega) (by omega) (bv_box i hi) (bv_box i hi)).1, fun i j k hi hj hk => ⟨?_, ?_⟩⟩
    · have hkey : lk q (qf_mul (tb i j k) E) = [qf_tch (qf_trn q E) (bv j) (bv k), qf_tch (qf_trn q E) (bv i) (bv k), qf_tch (qf_trn q E) (bv i) (bv j)] := by
        simp only [lk, qf_mul, qf_tch_trn, tb]
      rw [hkey]
      simp only [List.mem_cons, List.not_mem_nil, or_false, forall_eq_or_imp, forall_eq]
      exact ⟨(bx_val hR (by omega) (by omega) (by omega) (bv_box j hj) (bv_box k hk)).2, (bx_val hR (by omega) (by omega) (by omega) (bv_box i hi) (bv_box k hk)).2, (bx_val hR (by omega) (by omega) (by omega) (bv_box i hi) (bv_box j hj)).2⟩
    · have b1 := bx_lin (bv_box i hi) hent
      have b2 := bx_lin (bv_box j hj) hent
      have b3 := bx_lin (bv_box k hk) hent
      simp only [l9, qf_mul, tb, List.mem_cons, List.not_mem_nil, or_false, forall_eq_or_imp, forall_eq]
      exact ⟨b1.1, b1.2.1, b1.2.2, b2.1, b2.2.1, b2.2.2, b3.1, b3.2.1, b3.2.2⟩
  obtain ⟨s20, s21, s22, _⟩ := hs2
  have hv : ∃ b5, fX3_search (f + 10) s2 box w3 i3 b0 br0 = fX3_search_L107 w3 box (f + 10) s2 i3 (f + 10) (ix 0) 0 b5 br0 ∧ b5 0 = Int32.ofInt α ∧ b5 1 = Int32.ofInt β ∧ b5 2 = Int32.ofInt γ := by
    obtain ⟨b5, g0, g1, g2, g3⟩ := x3_best (F := f + 10) (box := box) (w := w3) (i := i3) (b := b0) (br := br0) s20 s21 s22 ⟨by omega, by omega⟩ ⟨by omega, by omega⟩ ⟨by omega, by omega⟩
    refine ⟨b5, g0, by rw [g1, hα], ?_, by rw [g2, hγ]⟩
    have e9 : (qf_trn q E).1 + (qf_trn q E).2.1 + (qf_trn q E).2.2.1 - min (qf_trn q E).1 (min (qf_trn q E).2.1 (qf_trn q E).2.2.1) - max (qf_trn q E).1 (max (qf_trn q E).2.1 (qf_trn q E).2.2.1) = β := by
      unfold qf_sum at hsm
      omega
    rw [g3, e9]
  obtain ⟨b5, e5, hb5⟩ := hv
  rw [e5]
  obtain ⟨t, b, r, e6, h6⟩ := x3_L107 hC ra rb rg (F := f + 10) (by omega) (f + 10) 0 [] 0 b5 br0 (by omega) (by omega) ⟨hb5, 0, 0, 0, qf_one, 0, ls_nil _ _ _, rfl, Nat.le_refl _, fun h => absurd h (Nat.lt_irrefl _)⟩ (by simp)
  rw [e6]
  simp only [bd3]
  refine ⟨_, _, _, _, _, _, _, rfl, ?_⟩
  rw [List.nil_append, Nat.sub_zero] at h6
  obtain ⟨⟨c0, c1, c2⟩, d, e, g, T, n, hl, ht, hn9, hb9⟩ := h6
  have hnd : ((cI_ (qf_trn q E) α β γ (List.range' 0 27)).map (fun X => qf_mul X E)).Nodup := nd_map (fun x y h => qf_mul_inj hE h) (cI_nd _ _ _ _)
  have hn0 : 0 < n := by
    rcases hl with ⟨h, _⟩ | ⟨h, _⟩
    · exact absurd h hne
    · exact h
  obtain ⟨c3, c4, c5, c9, _⟩ := hb9 hn0
  have hln := cI_len (qf_trn q E) α β γ (List.range' 0 27)
  rw [List.length_map] at hn9
  rw [List.length_range'] at hln
  exact ⟨(α, β, γ, d, e, g), T, n, ls_fin hl hnd hne hmem hmin, by omega, ht, ⟨c0, c1, c2, c3, c4, c5⟩, c9⟩
