/-! the reference: findLeast finds the least form, the first table and their count -/
theorem qE_bound {q : F6} (hp : qf_pd q) (hB : qB q) {v : V3} (hv : qf_val q v ≤ 6912) : rL v.1 ∧ rL v.2.1 ∧ rL v.2.2 := by
  have hx := qf_reach_x hp v
  have hy := qf_reach_y hp v
  have hz := qf_reach_z hp v
  have hD : 0 < qf_disc q := hp.2.2
  have hV : 0 ≤ qf_val q v := by
    by_cases e : v = (0, 0, 0)
    · rw [e]; simp [qf_val]
    · exact Int.le_of_lt (qf_pdv_of hp v e)
  have key : ∀ x : Int, x * x ≤ qf_disc q * (x * x) := fun x => by
    have := Int.mul_nonneg (by omega : (0 : Int) ≤ qf_disc q - 1) (qf_sq x)
    have e : (qf_disc q - 1) * (x * x) = qf_disc q * (x * x) - x * x := by grind
    omega
  have kA : ∀ b c d : Int, 0 < b → 0 < c → b ≤ 1000000000000 → c ≤ 1000000000000 → 4 * b * c - d * d ≤ 4000000000000000000000000 := by
    intro b c d hb hc hb' hc'
    have h1 : 0 ≤ (1000000000000 - b) * c := Int.mul_nonneg (by omega) (by omega)
    have h2 : (1000000000000 - b) * c = 1000000000000 * c - b * c := by grind
    have h3 : 4 * b * c = 4 * (b * c) := by grind
    have := qf_sq d
    omega
  have kx : ∀ x A : Int, x * x ≤ A * qf_val q v → A ≤ 4000000000000000000000000 → rL x := by
    intro x A h hA
    have h1 : 0 ≤ (4000000000000000000000000 - A) * qf_val q v := Int.mul_nonneg (by omega) hV
    have h2 : (4000000000000000000000000 - A) * qf_val q v = 4000000000000000000000000 * qf_val q v - A * qf_val q v := by grind
    constructor
    · rcases qf_lg x (-1000000000000000) with g | g
      · have : 0 < (-x - 1000000000000000) * (-x + 1000000000000000) := Int.mul_pos (by omega) (by omega)
        have : (-x - 1000000000000000) * (-x + 1000000000000000) = x * x - 1000000000000000000000000000000 := by grind
        omega
      · omega
    · rcases qf_lg 1000000000000000 x with g | g
      · have : 0 < (x - 1000000000000000) * (x + 1000000000000000) := Int.mul_pos (by omega) (by omega)
        have : (x - 1000000000000000) * (x + 1000000000000000) = x * x - 1000000000000000000000000000000 := by grind
        omega
      · omega
  obtain ⟨b1, b2, b3, _⟩ := hB
  exact ⟨kx _ _ (Int.le_trans (key _) hx) (kA _ _ _ b2.1 b3.1 b2.2 b3.2), kx _ _ (Int.le_trans (key _) hy) (kA _ _ _ b1.1 b3.1 b1.2 b3.2), kx _ _ (Int.le_trans (key _) hz) (kA _ _ _ b1.1 b2.1 b1.2 b2.2)⟩
theorem pw_tch {Q : F6} (hw : pw_ Q) (h1 : Q.1 ≤ 13824) (h2 : Q.2.1 ≤ 13824) (h3 : Q.2.2.1 ≤ 13824) {v w : V3} (hv : b4 v) (hw' : b4 w) : rL (qf_tch Q v w) := by
  obtain ⟨a, b, c, d, e, f⟩ := Q
  obtain ⟨x, y, z⟩ := v
  obtain ⟨x', y', z'⟩ := w
  obtain ⟨w1, w2, w3, w4⟩ := hw
  obtain ⟨v1, v2, v3⟩ := hv
  obtain ⟨u1, u2, u3⟩ := hw'
  simp only [qf_tch] at *
  have k : ∀ t u w : Int, -13824 ≤ t → t ≤ 13824 → -40000 ≤ u ∧ u ≤ 40000 → -40000 ≤ w ∧ w ≤ 40000 → -22118400000000 ≤ t * u * w ∧ t * u * w ≤ 22118400000000 := by
    intro t u w t1 t2 u1 w1
    have m1 := b4_mul (A := 13824) (B := 40000) (x := t) (y := u) ⟨by omega, by omega⟩ u1
    have m2 := b4_mul (A := 552960000) (B := 40000) (x := t * u) (y := w) ⟨by omega, by omega⟩ w1
    constructor <;> omega
  have j1 := k a x x' (by omega) (by omega) v1 u1
  have j2 := k b y y' (by omega) (by omega) v2 u2
  have j3 := k c z z' (by omega) (by omega) v3 u3
  have j4 := k d y z' (by omega) (by omega) v2 u3
  have j5 := k d z y' (by omega) (by omega) v3 u2
  have j6 := k e x z' (by omega) (by omega) v1 u3
  have j7 := k e z x' (by omega) (by omega) v3 u1
  have j8 := k f x y' (by omega) (by omega) v1 u2
  have j9 := k f y x' (by omega) (by omega) v2 u1
  have e1 : 2 * a * x * x' + 2 * b * y * y' + 2 * c * z * z' + d * (y * z' + z * y') + e * (x * z' + z * x') + f * (x * y' + y * x') = 2 * (a * x * x') + 2 * (b * y * y') + 2 * (c * z * z') + (d * y * z' + d * z * y') + (e * x * z' + e * z * x') + (f * x * y' + f * y * x') := by grind
  rw [e1]
  constructor <;> omega
theorem fl_0 (fu : Nat) (q base least table rows lists : Nat → Int64) (sizes : Nat → Int32) (tried : Nat → Int64) : fX7_findLeast fu q base least table rows lists sizes tried = bd2 (fX7_shorten fu q base) (fun q_1 base_2 => (fun k57 => if q_1 0 ≤ q_1 1 then (if q_1 2 ≤ q_1 1 then k57 (q_1 1) else k57 (q_1 2)) else (if q_1 2 ≤ q_1 0 then k57 (q_1 0) else k57 (q_1 2))) (fun s_4 => bd2 (fX7_findApart fu q_1 rows 0 s_4) (fun r_5 rows_6 => bd2 (fX7_findApart fu q_1 rows_6 1 s_4) (fun r_8 rows_9 => bd2 (fX7_findApart fu q_1 rows_9 2 s_4) (fun r_11 rows_12 => bd2 (fX7_listRows fu q_1 lists sizes (vp_updL (vp_updL (vp_updL least 0 r_5) 1 r_8) 2 r_11 0) (vp_updL (vp_updL (vp_updL least 0 r_5) 1 r_8) 2 r_11 1) (vp_updL (vp_updL (vp_updL least 0 r_5) 1 r_8) 2 r_11 2)) (fun lists_14 sizes_15 => fX7_findLeast_L123 sizes_15 q_1 base_2 rows_12 lists_14 fu fu 0 0 (vp_updL (vp_updL (vp_updL least 0 r_5) 1 r_8) 2 r_11) table tried)))))) := rfl
theorem fl_max {q : Nat → Int64} {Q : F6} (hq : al6 q Q) (hB : qB Q) {R : Type} (k : Int64 → Option R) : ∃ N, Q.1 ≤ N ∧ Q.2.1 ≤ N ∧ Q.2.2.1 ≤ N ∧ (N = Q.1 ∨ N = Q.2.1 ∨ N = Q.2.2.1) ∧ (if q 0 ≤ q 1 then (if q 2 ≤ q 1 then k (q 1) else k (q 2)) else (if q 2 ≤ q 0 then k (q 0) else k (q 2))) = k (Int64.ofInt N) := by
  obtain ⟨h0, h1, h2, _⟩ := hq
  obtain ⟨b1, b2, b3, _⟩ := hB
  have k1 : q 0 ≤ q 1 ↔ Q.1 ≤ Q.2.1 := by rw [h0, h1, zl_le ⟨by omega, by omega⟩ ⟨by omega, by omega⟩]
  have k2 : q 2 ≤ q 1 ↔ Q.2.2.1 ≤ Q.2.1 := by rw [h2, h1, zl_le ⟨by omega, by omega⟩ ⟨by omega, by omega⟩]
  have k3 : q 2 ≤ q 0 ↔ Q.2.2.1 ≤ Q.1 := by rw [h2, h0, zl_le ⟨by omega, by omega⟩ ⟨by omega, by omega⟩]
  by_cases g1 : Q.1 ≤ Q.2.1
  · rw [if_pos (k1.mpr g1)]
    by_cases g2 : Q.2.2.1 ≤ Q.2.1
    · rw [if_pos (k2.mpr g2), h1]
      exact ⟨Q.2.1, by omega, by omega, by omega, by omega, rfl⟩
    · rw [if_neg (fun h => g2 (k2.mp h)), h2]
      exact ⟨Q.2.2.1, by omega, by omega, by omega, by omega, rfl⟩
  · rw [if_neg (fun h => g1 (k1.mp h))]
    by_cases g2 : Q.2.2.1 ≤ Q.1
    · rw [if_pos (k3.mpr g2), h0]
      exact ⟨Q.1, by omega, by omega, by omega, by omega, rfl⟩
    · rw [if_neg (fun h => g2 (k3.mp h)), h2]
      exact ⟨Q.2.2.1, by omega, by omega, by omega, by omega, rfl⟩
theorem l7_findLeast {q0 : F6} (hp : qf_pd q0) (hB : qB q0) (hD : qf_disc q0 ≤ 6912) {q : Nat → Int64} (hq : al6 q q0) (base least table rows lists : Nat → Int64) (sizes : Nat → Int32) (tried : Nat → Int64) {F : Nat} (hF : 4000000000000 ≤ F) : ∃ t q' base' least' table' rows' lists' sizes' tried', fX7_findLeast F q base least table rows lists sizes tried = some (t, q', base', least', table', rows', lists', sizes', tried') ∧ ∃ L T n, qf_least q0 L T n ∧ n ≤ 100000000 ∧ t = ix n ∧ al6 least' L ∧ al9 table' T := by
  obtain ⟨q1, b1, E, e1, hE, hq1, hb1, ⟨d1, d2, d3⟩, hw⟩ := l7_shorten hp hB hq base hF
  have hp1 := qf_pd_trn hp hE
  have hD1 : qf_disc (qf_trn q0 E) = qf_disc q0 := by rw [qf_disc_trn, qf_gl_sq hE, Int.one_mul]
  have hB1 : qB (qf_trn q0 E) := qB_of hp1 (by have := hB.1; omega) (by have := hB.2.1; omega) (by have := hB.2.2.1; omega)
  obtain ⟨U, hU, hS, hgD, m1, m2, m3⟩ := pw_bnd hp1 hw (by omega)
  have ha := hS.1
  have hab := hS.2.1
  have hbc := hS.2.2.1
  generalize hQ : qf_trn q0 E = Q at *
  have g6 : (qf_trn Q U).2.2.1 ≤ 6912 := by omega
  obtain ⟨N, n1, n2, n3, n4, eN⟩ := fl_max hq1 hB1 (fun s_4 => bd2 (fX7_findApart F q1 rows 0 s_4) (fun r_5 rows_6 => bd2 (fX7_findApart F q1 rows_6 1 s_4) (fun r_8 rows_9 => bd2 (fX7_findApart F q1 rows_9 2 s_4) (fun r_11 rows_12 => bd2 (fX7_listRows F q1 lists sizes (vp_updL (vp_updL (vp_updL least 0 r_5) 1 r_8) 2 r_11 0) (vp_updL (vp_updL (vp_updL least 0 r_5) 1 r_8) 2 r_11 1) (vp_updL (vp_updL (vp_updL least 0 r_5) 1 r_8) 2 r_11 2)) (fun lists_14 sizes_15 => fX7_findLeast_L123 sizes_15 q1 b1 rows_12 lists_14 F F 0 0 (vp_updL (vp_updL (vp_updL least 0 r_5) 1 r_8) 2 r_11) table tried)))))
  have hN2 : N ≤ 2 * (qf_trn Q U).2.2.1 := by omega
  obtain ⟨r1, r2, r3, f1, f2, f3⟩ := l7_mins hq1 hp1 hw (by omega) hU hS hgD m1 m2 m3 n1 n2 n3 hN2 rows (F := F) (by omega)
  have hrc : rc_ok Q (qf_trn Q U).2.2.1 := rc_mk hp1 m1 m2 m3 (by omega) hgD (by omega) (by omega) (Or.inl (by omega))
  have hcnt : ∀ t, t ≤ (qf_trn Q U).2.2.1 → ∀ l : List V3, l.Nodup → (lf Q t l).length ≤ 420 := by
    intro t ht l hl
    have h1 : ((lf Q t l).map (qf_lin (qf_inv U))).Nodup := nd_map (fun x y e => qf_lin_inj (qf_gl_inv hU) e) (List.Pairwise.filter _ hl)
    have h2 := mn_many hS g6 ht h1 (fun v hv => by
      obtain ⟨w, hw9, e⟩ := List.mem_map.mp hv
      unfold lf at hw9
      have := (List.mem_filter.mp hw9).2
      rw [← e, mn_val hU]
      simpa using this)
    rw [List.length_map] at h2
    exact h2
  have hlC : lr_C Q (qf_trn Q U).1 (qf_trn Q U).2.1 (qf_trn Q U).2.2.1 q1 := ⟨hq1, ⟨⟨by omega, by omega⟩, ⟨by omega, by omega⟩, ⟨by omega, by omega⟩⟩, fun v hv => by
    have := pw_val hp1 hw (by omega) (by omega) (by omega) hv
    exact ⟨by omega, by omega⟩, fun l hl => ⟨hcnt _ (by omega) l hl, hcnt _ (by omega) l hl, hcnt _ (by omega) l hl⟩⟩
  obtain ⟨l4, s4, La, Lb, Lc, f4, sa, sb, sc, ⟨na, nb, nc⟩, ma, mb, mc, hb4⟩ := lr_all hlC hp1 hrc (by omega) (by omega) (by omega) lists sizes (F := F) (by omega)
  have hl0 : vp_updL (vp_updL (vp_updL least 0 (Int64.ofInt (qf_trn Q U).1)) 1 (Int64.ofInt (qf_trn Q U).2.1)) 2 (Int64.ofInt (qf_trn Q U).2.2.1) 0 = Int64.ofInt (qf_trn Q U).1 ∧ vp_updL (vp_updL (vp_updL least 0 (Int64.ofInt (qf_trn Q U).1)) 1 (Int64.ofInt (qf_trn Q U).2.1)) 2 (Int64.ofInt (qf_trn Q U).2.2.1) 1 = Int64.ofInt (qf_trn Q U).2.1 ∧ vp_updL (vp_updL (vp_updL least 0 (Int64.ofInt (qf_trn Q U).1)) 1 (Int64.ofInt (qf_trn Q U).2.1)) 2 (Int64.ofInt (qf_trn Q U).2.2.1) 2 = Int64.ofInt (qf_trn Q U).2.2.1 := by
    refine ⟨?_, ?_, ?_⟩ <;> simp [vp_updL]
  have hfC : fl_C q0 E q1 b1 l4 s4 La Lb Lc := by
    refine ⟨by rw [hQ]; exact hq1, hb1, ⟨sa, sb, sc⟩, ⟨fun v hv => hb4 v (by rw [(ma v).mp hv]; omega), fun v hv => hb4 v (by rw [(mb v).mp hv]; omega), fun v hv => hb4 v (by rw [(mc v).mp hv]; omega)⟩, fun u hu v hv w hw9 => ⟨?_, fun _ => ?_⟩⟩
    · have hkey : lk q0 (qf_mul (u, v, w) E) = [qf_tch Q v w, qf_tch Q u w, qf_tch Q u v] := by
        simp only [lk, qf_mul, ← hQ, qf_tch_trn]
      have bu := hb4 u (by rw [(ma u).mp hu]; omega)
      have bv := hb4 v (by rw [(mb v).mp hv]; omega)
      have bw := hb4 w (by rw [(mc w).mp hw9]; omega)
      rw [hkey]
      simp only [List.mem_cons, List.not_mem_nil, or_false, forall_eq_or_imp, forall_eq]
      exact ⟨pw_tch hw (by omega) (by omega) (by omega) bv bw, pw_tch hw (by omega) (by omega) (by omega) bu bw, pw_tch hw (by omega) (by omega) (by omega) bu bv⟩
    · have vq : ∀ x : V3, qf_val q0 (qf_lin E x) = qf_val Q x := fun x => by rw [← hQ, qf_val_trn]
      have q1 := qE_bound hp hB (v := qf_lin E u) (by rw [vq, (ma u).mp hu]; omega)
      have q2 := qE_bound hp hB (v := qf_lin E v) (by rw [vq, (mb v).mp hv]; omega)
      have q3 := qE_bound hp hB (v := qf_lin E w) (by rw [vq, (mc w).mp hw9]; omega)
      simp only [l9, qf_mul, List.mem_cons, List.not_mem_nil, or_false, forall_eq_or_imp, forall_eq]
      exact ⟨q1.1, q1.2.1, q1.2.2, q2.1, q2.2.1, q2.2.2, q3.1, q3.2.1, q3.2.2⟩
  have hst0 : lsR q0 (qf_trn Q U).1 (qf_trn Q U).2.1 (qf_trn Q U).2.2.1 [] 0 (vp_updL (vp_updL (vp_updL least 0 (Int64.ofInt (qf_trn Q U).1)) 1 (Int64.ofInt (qf_trn Q U).2.1)) 2 (Int64.ofInt (qf_trn Q U).2.2.1)) table := ⟨hl0, 0, 0, 0, qf_one, 0, ls_nil _ _ _, rfl, Nat.le_refl _, fun h => absurd h (Nat.lt_irrefl _)⟩
  have hla := sa.2.1
  obtain ⟨t, l, tb, tr, f5, h5⟩ := fl_123 hfC (rows := r3) (F := F) (by omega) La [] F [] 0 _ table tried rfl (by omega) hst0 (by simp only [List.length_nil]; omega)
  refine ⟨t, q1, b1, l, tb, r3, l4, s4, tr, ?_, ?_⟩
  · rw [fl_0, e1]
    refine Eq.trans eN ?_
    simp only [bd2, f1, f2, f3, hl0.1, hl0.2.1, hl0.2.2, f4]
    exact f5
  · rw [List.nil_append] at h5
    obtain ⟨⟨c0, c1, c2⟩, d, e, g, T, n, hl, ht, hn9, hb9⟩ := h5
    have hnd : ((dI La Lb Lc).map (fun X => qf_mul X E)).Nodup := nd_map (fun x y h => qf_mul_inj hE h) (dI_nd na nb nc)
    have hne : (dI La Lb Lc).map (fun X => qf_mul X E) ≠ [] := by
      intro h0
      have hin : U ∈ dI La Lb Lc := dI_mem.mpr ⟨(ma _).mpr rfl, (mb _).mpr rfl, (mc _).mpr rfl, hU⟩
      have := List.mem_map_of_mem (f := fun X => qf_mul X E) hin
      rw [h0] at this
      cases this
    have hmem : ∀ M, M ∈ (dI La Lb Lc).map (fun X => qf_mul X E) ↔ qf_gl M ∧ qf_val q0 M.1 = (qf_trn Q U).1 ∧ qf_val q0 M.2.1 = (qf_trn Q U).2.1 ∧ qf_val q0 M.2.2 = (qf_trn Q U).2.2.1 := by
      intro M
      rw [List.mem_map]
      constructor
      · rintro ⟨X, hX, eX⟩
        obtain ⟨x1, x2, x3, x4⟩ := dI_mem.mp hX
        rw [← eX]
        refine ⟨qf_gl_mul x4 hE, ?_, ?_, ?_⟩
        · rw [← (ma _).mp x1, ← hQ, qf_val_trn]; rfl
        · rw [← (mb _).mp x2, ← hQ, qf_val_trn]; rfl
        · rw [← (mc _).mp x3, ← hQ, qf_val_trn]; rfl
      · rintro ⟨y1, y2, y3, y4⟩
        refine ⟨qf_mul M (qf_inv E), dI_mem.mpr ⟨(ma _).mpr ?_, (mb _).mpr ?_, (mc _).mpr ?_, qf_gl_mul y1 (qf_gl_inv hE)⟩, by simp only [qf_mul_assoc, qf_inv_mul hE, qf_mul_one]⟩
        · rw [← y2, ← hQ]; exact mn_val hE M.1
        · rw [← y3, ← hQ]; exact mn_val hE M.2.1
        · rw [← y4, ← hQ]; exact mn_val hE M.2.2
    have hmin : ∀ M, qf_gl M → qr_le3 (qf_trn Q U).1 (qf_trn Q U).2.1 (qf_trn Q U).2.2.1 (qf_val q0 M.1) (qf_val q0 M.2.1) (qf_val q0 M.2.2) := by
      intro M hM
      have h9 := mn_min (q := q0) (U := qf_mul U E) (qf_gl_mul hU hE) (by rw [← qf_trn_trn, hQ]; exact hS) (M := M) (qf_gl_ne hM)
      rw [← qf_trn_trn, hQ] at h9
      exact h9
    have hn0 : 0 < n := by
      rcases hl with ⟨h, _⟩ | ⟨h, _⟩
      · exact absurd h hne
      · exact h
    obtain ⟨c3, c4, c5, c9, _⟩ := hb9 hn0
    have hlen : (dI La Lb Lc).length ≤ 100000000 := by
      have key : ∀ A : List V3, (dI A Lb Lc).length ≤ 176400 * A.length := by
        intro A
        induction A with
        | nil => simp [dI]
        | cons u A ih =>
          have h2 := dJ_len u Lc sc.2.1 Lb
          have h3 := sb.2.1
          unfold dI at ih ⊢
          rw [List.flatMap_cons, List.length_append, List.length_cons]
          omega
      have := key La
      omega
    rw [List.length_map] at hn9
    exact ⟨_, T, n, ls_fin hl hnd hne hmem hmin, by omega, ht, ⟨c0, c1, c2, c3, c4, c5⟩, c9⟩
