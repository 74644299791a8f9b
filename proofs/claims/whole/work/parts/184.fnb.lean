/-! neighbours: the reference's findNeighbour, the whole -/
theorem al6_up (q md : Nat → Int64) {M : F6} (h : al6 md M) : al6 (up3 (up3 q 0 (md 0) (md 1) (md 2)) 3 (md 3) (md 4) (md 5)) M := by
  obtain ⟨h0, h1, h2, h3, h4, h5⟩ := h
  refine ⟨?_, ?_, ?_, ?_, ?_, ?_⟩
  · rw [← h0]; rfl
  · rw [← h1]; rfl
  · rw [← h2]; rfl
  · rw [← h3]; rfl
  · rw [← h4]; rfl
  · rw [← h5]; rfl
theorem al6_of (md : Nat → Int64) (D0 D1 D2 D3 D4 D5 : Int) : al6 (up3 (up3 md 0 (Int64.ofInt D0) (Int64.ofInt D1) (Int64.ofInt D2)) 3 (Int64.ofInt D3) (Int64.ofInt D4) (Int64.ofInt D5)) (D0, D1, D2, D3, D4, D5) := ⟨rfl, rfl, rfl, rfl, rfl, rfl⟩
theorem l7_findNeighbour {Q : F6} (hQ : qf_pd Q) (hqs : qs_ Q) (hD : qf_disc Q ≤ 6912) {q : Nat → Int64} (hq : al6 q Q) {p i u t : Nat} (hp : p = 3 ∨ p = 5 ∨ p = 7) {l : V3} (hi : i ≤ 7) (h : LN Q p i l u t) (base least table rows lists : Nat → Int64) (sizes : Nat → Int32) (tried line makers touches made : Nat → Int64) {F : Nat} (hF : 4000000000000 ≤ F) : ∃ tn q' base' least' table' rows' lists' sizes' tried' line' makers' touches' made', fX7_findNeighbour F (ix p) q base least table rows lists sizes tried line makers touches made (ix i) = some (tn, ix t, ix u, q', base', least', table', rows', lists', sizes', tried', line', makers', touches', made') ∧ ∃ L T n, qf_least (crsL Q p l u t) L T n ∧ n ≤ 100000000 ∧ tn = ix n ∧ al6 least' L := by
  have hu := h.2.1
  have htp := h.2.2.2.2.1
  obtain ⟨line', e1, hl, hl7⟩ := l7_findLine hq hqs hp hi h line (show 1000 ≤ F by omega)
  have hw60 := zW_60 (u := u) hp hl7 htp
  obtain ⟨r1, r2, r3, r4, r5, r6⟩ := rho_of hp h
  have hnu : ¬ (p : Int) ∣ qf_tch Q (zW l p t u) (un u) := by
    rw [zW_tch]
    intro g
    apply h.2.2.1
    have g2 := Int.dvd_sub g (Int.dvd_mul_right (p : Int) ((t : Int) * qf_tch Q (un u) (un u)))
    have e : qf_tch Q l (un u) + (p : Int) * ((t : Int) * qf_tch Q (un u) (un u)) - (p : Int) * ((t : Int) * qf_tch Q (un u) (un u)) = qf_tch Q l (un u) := by omega
    rw [e] at g2
    exact g2
  obtain ⟨c1, c2, c3, c4⟩ := rt_col hp hnu r4 r5 r6 r1
  obtain ⟨R, U, n1, n2, n3, n4, n5, n6⟩ := nb_both hp h
  obtain ⟨k1, k2, k3, k4, k5, k6⟩ := crsL_all hp h hQ hqs
  have n3' : qf_trn Q (R 0, R 1, R 2) = sc6 ((p : Int) * p) (qf_trn (crsL Q p l u t) U) := n3
  generalize hC : crsL Q p l u t = C at *
  generalize hX : tmV Q p (zW l p t u) = X at *
  generalize hrho : rhoT Q p (zW l p t u) u = rho at *
  have hs3 : lstN rho < 3 := by
    unfold lstN
    split
    · decide
    · split <;> decide
  generalize hs : lstN rho = s at *
  obtain ⟨f, hf⟩ : ∃ f, F = f + 10 := ⟨F - 10, by omega⟩
  have hg := ivm_b p (col s X)
  have b0 := c2 0
  have b1 := c2 1
  have b2 := c2 2
  have bs := c2 s
  have x0 : X.1 = col 0 X := rfl
  have x1 : X.2.1 = col 1 X := rfl
  have x2 : X.2.2 = col 2 X := rfl
  have htc : avl (up3 touches 0 (Int64.ofInt X.1) (Int64.ofInt X.2.1) (Int64.ofInt X.2.2)) 0 X := up3_at _ _ _
  have htcs : up3 touches 0 (Int64.ofInt X.1) (Int64.ofInt X.2.1) (Int64.ofInt X.2.2) s = Int64.ofInt (col s X) := by
    have : s = 0 ∨ s = 1 ∨ s = 2 := by omega
    rcases this with e | e | e <;> subst e
    · exact htc.1
    · exact htc.2.1
    · exact htc.2.2
  have hm : am (up3v (up3v (up3v (up3v makers 0 (kvR p 0 s X.1 (ivm p (col s X)))) 3 (kvR p 1 s X.2.1 (ivm p (col s X)))) 6 (kvR p 2 s X.2.2 (ivm p (col s X)))) 9 (zW l p t u)) (tup4 (mkr p rho 0) (mkr p rho 1) (mkr p rho 2) (zW l p t u)) := by
    have r0 : kvR p 0 s X.1 (ivm p (col s X)) = mkr p rho 0 := kv_mkr hs (by decide) hs3 (c4 0)
    have r1 : kvR p 1 s X.2.1 (ivm p (col s X)) = mkr p rho 1 := kv_mkr hs (by decide) hs3 (c4 1)
    have r2 : kvR p 2 s X.2.2 (ivm p (col s X)) = mkr p rho 2 := kv_mkr hs (by decide) hs3 (c4 2)
    rw [r0, r1, r2]
    intro r hr
    have : r = 0 ∨ r = 1 ∨ r = 2 ∨ r = 3 := by omega
    rcases this with e | e | e | e <;> subst e
    · exact up3v_ne _ _ _ _ (by decide) (up3v_ne _ _ _ _ (by decide) (up3v_ne _ _ _ _ (by decide) (up3v_at _ _ _)))
    · exact up3v_ne _ _ _ _ (by decide) (up3v_ne _ _ _ _ (by decide) (up3v_at _ _ _))
    · exact up3v_ne _ _ _ _ (by decide) (up3v_at _ _ _)
    · exact up3v_at _ _ _
  obtain ⟨mk', m1, m2⟩ := l7_settle hm n1 (show 100 ≤ F by omega)
  obtain ⟨s0, s1, s2⟩ := n6
  have hB : 0 < (p : Int) * p ∧ (p : Int) * p ≤ 49 := by rcases hp with e | e | e <;> subst e <;> decide
  have hby : (ix p).toInt64 * (ix p).toInt64 = Int64.ofInt ((p : Int) * p) := by rw [ix_wide (by omega), ← Int64.ofInt_mul]
  have v0 : qf_val Q (R 0) = (p : Int) * p * (qf_trn C U).1 := congrArg (fun z : F6 => z.1) n3'
  have v1 : qf_val Q (R 1) = (p : Int) * p * (qf_trn C U).2.1 := congrArg (fun z : F6 => z.2.1) n3'
  have v2 : qf_val Q (R 2) = (p : Int) * p * (qf_trn C U).2.2.1 := congrArg (fun z : F6 => z.2.2.1) n3'
  have v3 : qf_tch Q (R 1) (R 2) = (p : Int) * p * (qf_trn C U).2.2.2.1 := congrArg (fun z : F6 => z.2.2.2.1) n3'
  have v4 : qf_tch Q (R 0) (R 2) = (p : Int) * p * (qf_trn C U).2.2.2.2.1 := congrArg (fun z : F6 => z.2.2.2.2.1) n3'
  have v5 : qf_tch Q (R 0) (R 1) = (p : Int) * p * (qf_trn C U).2.2.2.2.2 := congrArg (fun z : F6 => z.2.2.2.2.2) n3'
  have w0 := qs_val4 hqs s0
  have w1 := qs_val4 hqs s1
  have w2 := qs_val4 hqs s2
  have w3 := qs_tch4 hqs s1 s2
  have w4 := qs_tch4 hqs s0 s2
  have w5 := qs_tch4 hqs s0 s1
  have hpM : qf_pd (qf_trn C U) := qf_pd_trn k1 n2
  have hdM : qf_disc (qf_trn C U) = qf_disc C := by
    rw [qf_disc_trn, qf_gl_sq n2, Int.one_mul]
  have sq : ∀ x y : Int, x = (p : Int) * p * y → x ≤ 41472000000 → y ≤ 1000000000000 := by
    intro x y e hx
    rcases Int.le_total y 0 with g | g
    · omega
    · have := Int.mul_le_mul_of_nonneg_right (show (1 : Int) ≤ (p : Int) * p by omega) g
      omega
  have hBM : qB (qf_trn C U) := qB_of hpM (sq _ _ v0 w0.2) (sq _ _ v1 w1.2) (sq _ _ v2 w2.2)
  obtain ⟨tn, q', base', least', table', rows', lists', sizes', tried', g1, L, T, n, g2, g3, g4, g5, g6⟩ := l7_findLeast hpM hBM (by rw [hdM, k2]; exact hD) (al6_up q _ (al6_of made (qf_trn C U).1 (qf_trn C U).2.1 (qf_trn C U).2.2.1 (qf_trn C U).2.2.2.1 (qf_trn C U).2.2.2.2.1 (qf_trn C U).2.2.2.2.2)) base least table rows lists sizes tried hF
  obtain ⟨T', hT'⟩ := qf_least_trn n2 g2
  refine ⟨tn, q', base', least', table', rows', lists', sizes', tried', line', mk', up3 touches 0 (Int64.ofInt X.1) (Int64.ofInt X.2.1) (Int64.ofInt X.2.2), up3 (up3 made 0 (Int64.ofInt (qf_trn C U).1) (Int64.ofInt (qf_trn C U).2.1) (Int64.ofInt (qf_trn C U).2.2.1)) 3 (Int64.ofInt (qf_trn C U).2.2.2.1) (Int64.ofInt (qf_trn C U).2.2.2.2.1) (Int64.ofInt (qf_trn C U).2.2.2.2.2), ?_, L, T', n, hT', g3, g4, g5⟩
  unfold fX7_findNeighbour
  simp only [nm_eq]
  rw [e1, bd3_s, hby]
  subst hf
  rw [n9 hq hqs hp hl hu (by omega) hw60 hnu, hX, c1, n115 hp hs3 (by omega) c3 htcs, n144 hp hs3 (by omega) (by omega) (by omega) hg htc, n257 hp hl hu (by omega), m1, bd1_s, n305 hq m2 hB v0 v1 v2 ⟨by omega, by omega⟩ ⟨by omega, by omega⟩ ⟨by omega, by omega⟩, n365 hq m2 hB v3 v4 v5 ⟨by omega, by omega⟩ ⟨by omega, by omega⟩ ⟨by omega, by omega⟩, n483, g1]
  rfl
theorem l7_nb {Q : F6} (hQ : qf_pd Q) (hqs : qs_ Q) (hD : qf_disc Q ≤ 6912) {q : Nat → Int64} (hq : al6 q Q) {p i : Nat} (hp : p = 3 ∨ p = 5 ∨ p = 7) (hi : i ≤ p) (hdv : ¬ (p : Int) ∣ qf_disc Q) (base least table rows lists : Nat → Int64) (sizes : Nat → Int32) (tried line makers touches made : Nat → Int64) {F : Nat} (hF : 4000000000000 ≤ F) : ∃ tn lt lu q' base' least' table' rows' lists' sizes' tried' line' makers' touches' made', fX7_findNeighbour F (ix p) q base least table rows lists sizes tried line makers touches made (ix i) = some (tn, lt, lu, q', base', least', table', rows', lists', sizes', tried', line', makers', touches', made') ∧ ∃ L n, NB Q p i L n ∧ tn = ix n ∧ al6 least' L := by
  obtain ⟨l, u, t, h⟩ := LN_ex hp hdv hi
  obtain ⟨tn, q', base', least', table', rows', lists', sizes', tried', line', makers', touches', made', e, L, T, n, g1, g2, g3, g4⟩ := l7_findNeighbour hQ hqs hD hq hp (by omega) h base least table rows lists sizes tried line makers touches made hF
  exact ⟨tn, ix t, ix u, q', base', least', table', rows', lists', sizes', tried', line', makers', touches', made', e, L, n, ⟨l, u, t, T, h, g1⟩, g3, g4⟩
