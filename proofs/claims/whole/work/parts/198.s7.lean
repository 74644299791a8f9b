/-! calls: mean -/
abbrev O22 : Type := Option (Int64 × (Int32) × (Int32) × (Int32) × (Int32) × (Int64) × (Int64) × (Nat → Int64) × (Nat → Int64) × (Nat → Int64) × (Nat → Int64) × (Nat → Int64) × (Nat → Int64) × (Nat → Int32) × (Nat → Int64) × (Nat → Int64) × (Nat → Int64) × (Nat → Int64) × (Nat → Int64) × (Nat → Int64) × (Nat → Int32) × (Nat → Int32))
theorem l7_mean {D : Int} (hD : D ≤ 6912) {K : KS} (hg : Kg D K) {kf : Nat → Int64} {kt : Nat → Int32} (ht : ∀ (i : Nat) (x : F6 × Nat), K.1[i]? = some x → al6 (fun j => kf (6 * i + j)) x.1 ∧ kt i = ix x.2) {N : Int} (hN : 0 ≤ N ∧ N ≤ 100) (R : Int64 → Int64 → (Nat → Int64) → O22) (q : Nat → Int64) {F : Nat} (hF : 4000000000000 ≤ F) : ∃ q', fX7_mean_L83 (ix K.1.length) R F kf (Int32.ofInt N) kt F 0 0 1 q = R (zn (psum (fun x => 48 / x.2 * cntF x.1 N) K.1 / Nat.gcd (psum (fun x => 48 / x.2 * cntF x.1 N) K.1) 48)) (zn (48 / Nat.gcd (psum (fun x => 48 / x.2 * cntF x.1 N) K.1) 48)) q' ∧ psum (fun x => 48 / x.2 * cntF x.1 N) K.1 ≤ 161376 * K.1.length := by
  have hF5 : 100000 ≤ F := by omega
  have hF1 : 100 ≤ F := by omega
  obtain ⟨g1, g2, g3, g4⟩ := hg
  have hcl : ∀ x ∈ K.1, cntF x.1 N ≤ 3362 ∧ 48 / x.2 * cntF x.1 N ≤ 161376 := by
    intro x hx
    have hxg := g3 x hx
    have hpw := pw_of hxg.1
    have h48 := ex48 hxg.2.2.2.1 hxg.2.2.2.2
    obtain ⟨k, _, hk⟩ := l7_takenNow (q := fun j => Int64.ofInt (g6 x.1 j)) (Q := x.1) ⟨rfl, rfl, rfl, rfl, rfl, rfl⟩ hxg.2.1 hpw (by rw [hxg.2.2.1]; exact hD) hN.1 hN.2 (F := F) hF5
    have h1 := cnt_le hxg.1 hxg.2.1 hN hk
    rw [cntF_of hk]
    exact ⟨h1, Nat.le_trans (Nat.mul_le_mul h48.2 h1) (by decide)⟩
  have hX := psum_le (fun x => 48 / x.2 * cntF x.1 N) 161376 K.1 (fun x hx => (hcl x hx).2)
  have key : ∀ (k n i A : Nat) (q : Nat → Int64), i + k = K.1.length → k + 1 ≤ n → A + 161376 * k ≤ 100000000 → ∃ q', fX7_mean_L83 (ix K.1.length) R F kf (Int32.ofInt N) kt n (ix i) (zn (A / Nat.gcd A 48)) (zn (48 / Nat.gcd A 48)) q = R (zn ((A + psum (fun x => 48 / x.2 * cntF x.1 N) (K.1.drop i)) / Nat.gcd (A + psum (fun x => 48 / x.2 * cntF x.1 N) (K.1.drop i)) 48)) (zn (48 / Nat.gcd (A + psum (fun x => 48 / x.2 * cntF x.1 N) (K.1.drop i)) 48)) q' := by
    intro k
    induction k with
    | zero =>
      intro n i A q e1 e2 e3
      obtain ⟨n, rfl⟩ : ∃ m, n = m + 1 := ⟨n - 1, by omega⟩
      refine ⟨q, ?_⟩
      rw [fX7_mean_L83, if_pos ((ix_le (by omega) (by omega)).mpr (by omega)), List.drop_eq_nil_of_le (by omega)]
      rfl
    | succ k ih =>
      intro n i A q e1 e2 e3
      obtain ⟨n, rfl⟩ : ∃ m, n = m + 1 := ⟨n - 1, by omega⟩
      have hi : i < K.1.length := by omega
      have hx : K.1[i]? = some K.1[i] := List.getElem?_eq_getElem hi
      have hxg := g3 _ (List.getElem_mem hi)
      have h48 := ex48 hxg.2.2.2.1 hxg.2.2.2.2
      have hc2 := hcl _ (List.getElem_mem hi)
      have hn48 : (K.1[i]).2 ≤ 48 := Nat.le_of_dvd (by decide) hxg.2.2.2.1
      obtain ⟨q1, eq1, hq1⟩ := l7_holdKind (k := i) (by omega) (ht i _ hx).1 q (F := F) hF1
      obtain ⟨c, ec, hc⟩ := l7_takenNow hq1 hxg.2.1 (pw_of hxg.1) (by rw [hxg.2.2.1]; exact hD) hN.1 hN.2 (F := F) hF5
      have ecF := cntF_of hc
      rw [ecF] at hc2
      have ew : (ix (K.1[i]).2).toInt64 = zn (K.1[i]).2 := ix_wide (by omega)
      have ew2 : (ix c).toInt64 = zn c := ix_wide (by omega)
      have ea := l7_add (X := A) (t := c) (n := (K.1[i]).2) (by omega) (by omega) hxg.2.2.2.1 hxg.2.2.2.2 hF
      obtain ⟨q', e'⟩ := ih n (i + 1) (A + 48 / (K.1[i]).2 * c) q1 (by omega) (by omega) (by omega)
      refine ⟨q', ?_⟩
      rw [fX7_mean_L83, if_neg (fun g => by have := (ix_le (by omega) (by omega)).mp g; omega), eq1, bd1_s, ec, bd1_s, if_pos (ix_ok (by omega) (by decide)), ix_nat (by omega), (ht i _ hx).2, ew, ew2, ea, bd2_s]
      dsimp only [nm_eq]
      rw [ix_1, ix_add, e', psum_drop _ hi, ecF, Nat.add_assoc]
  obtain ⟨q', e⟩ := key K.1.length F 0 0 q (by omega) (by omega) (by omega)
  rw [List.drop_zero, Nat.zero_add] at e
  exact ⟨q', e, hX⟩
theorem S_mean {held p_ : Int32} {box : Nat → Int32} {F : Nat → FS} {forms prime : Int32} {num : Nat → Int32} {hc p : Nat} {QF : Nat → F6} (h : INVx held p_ box F forms prime num hc p QF) {k : Nat} (p0 p1 p2 : Int32) (hk : okI p0 12 → p0.toNatClampNeg = k) (fo : Int32) (lp : Int32) (lt : Int32) (lu : Int32) (six : Nat → Int32) (all : Nat → Int32) (w : Nat → Int32) (b : Nat → Int32) (c : Nat → Int32) (ti : Int32) (s : Nat → Int32) (r : Nat → Int32) (wo : Nat → Int32) (im : Nat → Int32) (be : Nat → Int32) (br : Nat → Int32) (tn : Int32) (mt : Int32) (mu : Int32) (kinds : Int32) (up : Int64) (lo : Int64) (q : Nat → Int64) (ba : Nat → Int64) (le : Nat → Int64) (tb : Nat → Int64) (ro : Nat → Int64) (li : Nat → Int64) (sz : Nat → Int32) (tr : Nat → Int64) (ln : Nat → Int64) (mk : Nat → Int64) (tc : Nat → Int64) (md : Nat → Int64) (kf : Nat → Int64) (kt : Nat → Int32) (kw : Nat → Int32) {fu : Nat} (hfu : 4000000000000 ≤ fu) : ∃ a size' many' by_' tu' fo' lp' lt' lu' six' all' w' b' c' ti' s' r' wo' im' be' br' mem' path' tn' mt' mu' kinds' up' lo' q' ba' le' tb' ro' li' sz' tr' ln' mk' tc' md' kf' kt' kw', fX6_mean fu held p_ (F k).1 (F k).2.1 (F k).2.2.2.1 (F k).2.2.2.2.2.1 (F k).2.2.2.2.2.2.1 (F k).2.2.2.2.2.2.2.1 (F k).2.2.2.2.2.2.2.2.1 fo lp lt lu six all w b c ti s r box wo im be br (F k).2.2.2.2.2.2.2.2.2.1 (F k).2.2.2.2.2.2.2.2.2.2 p0 p1 p2 = some (a, size', many', by_', tu', fo', lp', lt', lu', six', all', w', b', c', ti', s', r', wo', im', be', br', mem', path') ∧ fX7_mean fu forms prime tn mt mu kinds up lo num q ba le tb ro li sz tr ln mk tc md kf kt kw p0 p1 p2 = some (a, tn', mt', mu', kinds', up', lo', q', ba', le', tb', ro', li', sz', tr', ln', mk', tc', md', kf', kt', kw') ∧ INVx held p_ box (va_up F k ((F k).1, (F k).2.1, (F k).2.2.1, (F k).2.2.2.1, (F k).2.2.2.2.1, size', many', by_', tu', mem', path')) forms prime num hc p QF := by
  have hI := h
  have same : INVx held p_ box (va_up F k (F k)) forms prime num hc p QF := by rw [va_up_id]; exact hI
  obtain ⟨h1, h2, h3, h4, h5, h6, h7, h8⟩ := h
  obtain ⟨z, hz, rfl⟩ := z_ex p0
  obtain ⟨x, hx, rfl⟩ := z_ex p1
  obtain ⟨y, hy, rfl⟩ := z_ex p2
  subst h3; subst h4; subst h6; subst h7
  have a1 : fX6_isOutside (Int32.ofInt x) 0 100 = some (if 0 ≤ x ∧ x ≤ 100 then 0 else 1) := x6_outL hx (a := 0) (b := 100) (by first | rfl | decide) (by first | rfl | decide) ⟨by omega, by omega⟩ ⟨by omega, by omega⟩
  have a2 : fX7_in (Int32.ofInt x).toInt64 0 100 = some (if 0 ≤ x ∧ x ≤ 100 then 1 else 0) := x7_inL hx (a := 0) (b := 100) (by first | rfl | decide) (by first | rfl | decide) ⟨by omega, by omega⟩ ⟨by omega, by omega⟩
  have o1 : fX6_isOutside (Int32.ofInt y) 0 1 = some (if 0 ≤ y ∧ y ≤ 1 then 0 else 1) := x6_outL hy (a := 0) (b := 1) (by first | rfl | decide) (by first | rfl | decide) ⟨by omega, by omega⟩ ⟨by omega, by omega⟩
  have o2 : fX7_in (Int32.ofInt y).toInt64 0 1 = some (if 0 ≤ y ∧ y ≤ 1 then 1 else 0) := x7_inL hy (a := 0) (b := 1) (by first | rfl | decide) (by first | rfl | decide) ⟨by omega, by omega⟩ ⟨by omega, by omega⟩
  unfold fX6_mean fX7_mean
  rw [x6_unk h1 hz, x7_isForm h1 hz, bd1_s, bd1_s]
  by_cases g : 0 ≤ z ∧ z < hc
  ·
    obtain ⟨ek, hkc⟩ := kn g h1 hk
    obtain ⟨hf, hn⟩ := h8 k hkc
    obtain ⟨ans, size_a, many_a, by__a, tu_a, fo_a, lp_a, lt_a, lu_a, six_a, all_a, w_a, b_a, c_a, ti_a, s_a, r_a, wo_a, im_a, be_a, br_a, mem_a, path_a, tn_b, mt_b, mu_b, kinds_b, q_b, ba_b, le_b, tb_b, ro_b, li_b, sz_b, tr_b, ln_b, mk_b, tc_b, md_b, kf_b, kt_b, kw_b, e1, e2, hF, hK⟩ := kin2 hf (show k < 12 by omega) hn h2 h5 fo lp lt lu six all w b c ti s r wo im be br tn mt mu kinds q ba le tb ro li sz tr ln mk tc md kf kt kw hfu
    rw [if_pos g, if_pos z00, if_pos g, if_neg n10, a1, a2, bd1_s, bd1_s]
    dsimp only [nm_eq]
    by_cases gx : 0 ≤ x ∧ x ≤ 100
    · rw [if_pos gx, if_pos z00, if_pos gx, if_neg n10, o1, o2, bd1_s, bd1_s]
      by_cases gy : 0 ≤ y ∧ y ≤ 1
      · rw [if_pos gy, if_pos z00, if_pos gy, if_neg n10, ek, e1, bd23_s, e2, bd20_s]
        rcases hK with ⟨K, k1, k2, k3, k4⟩ | hK
        · have hD6 := fit_D hf.1
          have et := x0_taking hD6 k1 (fun i x hx => k3.2.2.1 i x hx) gx (F := fu) (by omega)
          have ea := x0_all k1 (fun i x hx => (k3.2.2.1 i x hx).2) (F := fu) (by omega)
          have eb := l7_weigh k1 (fun i x hx => (k4.2.1 i x hx).2) hfu
          have hS : psum (fun x => 48 / x.2) K.1 ≤ 48 * K.1.length := psum_le _ 48 _ (fun x hx => Nat.div_le_self _ _)
          have hl := k1.2.1
          have hl1 := k1.1
          have hS0 : 0 < psum (fun x => 48 / x.2) K.1 := by
            have hx0 := k1.2.2.1 _ (List.getElem_mem (show 0 < K.1.length by omega))
            have h48 := ex48 hx0.2.2.2.1 hx0.2.2.2.2
            have := psum_drop (fun x => 48 / x.2) (l := K.1) (i := 0) (by omega)
            rw [List.drop_zero] at this
            omega
          have k1' := k1
          obtain ⟨d1, d2, d3, d4⟩ := k3
          obtain ⟨v1, v2, v3⟩ := k4
          subst k2; subst v1; subst d1
          rw [if_pos (ix_nn (by omega)), if_pos (ix_nn (by omega)), if_pos (ix_ok (by omega) (by decide)), et, bd1_s, ea, bd1_s, eb, bd2_s]
          obtain ⟨q3, em, hX⟩ := l7_mean hD6 k1' v2 gx (fun (upper_35 : Int64) (lower_36 : Int64) (q_37 : Nat → Int64) => bd1 (fX7_common fu (upper_35 * zn (48 / Nat.gcd (psum (fun x => 48 / x.2) K.1) 48)) (lower_36 * zn (psum (fun x => 48 / x.2) K.1 / Nat.gcd (psum (fun x => 48 / x.2) K.1) 48))) (fun (r_40 : Int64) => if Int32.ofInt y = 0 then (if ¬ r_40 = 0 then some ((upper_35 * zn (48 / Nat.gcd (psum (fun x => 48 / x.2) K.1) 48)) / r_40, tn_b, mt_b, mu_b, ix K.1.length, upper_35 * zn (48 / Nat.gcd (psum (fun x => 48 / x.2) K.1) 48), lower_36 * zn (psum (fun x => 48 / x.2) K.1 / Nat.gcd (psum (fun x => 48 / x.2) K.1) 48), q_37, ba_b, le_b, tb_b, ro_b, li_b, sz_b, tr_b, ln_b, mk_b, tc_b, md_b, kf_b, kt_b, kw_b) else none) else (if ¬ r_40 = 0 then some ((lower_36 * zn (psum (fun x => 48 / x.2) K.1 / Nat.gcd (psum (fun x => 48 / x.2) K.1) 48)) / r_40, tn_b, mt_b, mu_b, ix K.1.length, upper_35 * zn (48 / Nat.gcd (psum (fun x => 48 / x.2) K.1) 48), lower_36 * zn (psum (fun x => 48 / x.2) K.1 / Nat.gcd (psum (fun x => 48 / x.2) K.1) 48), q_37, ba_b, le_b, tb_b, ro_b, li_b, sz_b, tr_b, ln_b, mk_b, tc_b, md_b, kf_b, kt_b, kw_b) else none))) q_b hfu
          rw [em]
          generalize hXe : psum (fun x_1 => 48 / x_1.2 * cntF x_1.1 x) K.1 = X at *
          generalize hSe : psum (fun x => 48 / x.2) K.1 = S at *
          have ec := x6_terms (a := X) (b := S) (by omega) (by omega) hS0 (Int32.ofInt y) (F := fu) (by omega)
          obtain ⟨m1, m2⟩ := fr_mean (X := X) hS0
          have b1 : X / Nat.gcd X 48 ≤ X := Nat.div_le_self _ _
          have b2 : 48 / Nat.gcd S 48 ≤ 48 := Nat.div_le_self _ _
          have b3 : 48 / Nat.gcd X 48 ≤ 48 := Nat.div_le_self _ _
          have b4 : S / Nat.gcd S 48 ≤ S := Nat.div_le_self _ _
          have b5 : X / Nat.gcd X 48 * (48 / Nat.gcd S 48) ≤ 10000000 * 48 := Nat.mul_le_mul (by omega) b2
          have b6 : 48 / Nat.gcd X 48 * (S / Nat.gcd S 48) ≤ 48 * 10000 := Nat.mul_le_mul b3 (by omega)
          have p1 : 0 < 48 / Nat.gcd X 48 := Nat.div_pos (Nat.gcd_le_right _ (by decide)) (Nat.gcd_pos_of_pos_right _ (by decide))
          have p2 : 0 < S / Nat.gcd S 48 := Nat.div_pos (Nat.gcd_le_left _ hS0) (Nat.gcd_pos_of_pos_right _ (by decide))
          have p3 := Nat.mul_pos p1 p2
          have hcm := l7_common (a := X / Nat.gcd X 48 * (48 / Nat.gcd S 48)) (b := 48 / Nat.gcd X 48 * (S / Nat.gcd S 48)) (by omega) (by omega) hfu
          have hg0 := Nat.gcd_pos_of_pos_right (X / Nat.gcd X 48 * (48 / Nat.gcd S 48)) p3
          have hg1 := Nat.gcd_le_right (X / Nat.gcd X 48 * (48 / Nat.gcd S 48)) p3
          have hne : ¬ zn (Nat.gcd (X / Nat.gcd X 48 * (48 / Nat.gcd S 48)) (48 / Nat.gcd X 48 * (S / Nat.gcd S 48))) = 0 := by rw [zn_0, zn_eq (by omega) (by omega)]; omega
          rw [zn_mul, zn_mul, hcm, bd1_s, ec, bd1_s]
          by_cases gz : Int32.ofInt y = 0
          · rw [if_pos gz, if_pos gz, if_pos hne, zn_div (by omega) (by omega), m1]
            exact ⟨_, _, many_a, by__a, tu_a, fo_a, lp_a, lt_a, lu_a, six_a, all_a, w_a, b_a, c_a, ti_a, s_a, r_a, wo_a, im_a, be_a, br_a, mem_a, path_a, _, _, _, _, _, _, _, _, _, _, _, _, _, _, _, _, _, _, _, _, _, rfl, rfl, hI.put (fun _ => hF)⟩
          · rw [if_neg gz, if_neg gz, if_pos hne, zn_div (by omega) (by omega), m2]
            exact ⟨_, _, many_a, by__a, tu_a, fo_a, lp_a, lt_a, lu_a, six_a, all_a, w_a, b_a, c_a, ti_a, s_a, r_a, wo_a, im_a, be_a, br_a, mem_a, path_a, _, _, _, _, _, _, _, _, _, _, _, _, _, _, _, _, _, _, _, _, _, rfl, rfl, hI.put (fun _ => hF)⟩
        · rw [if_neg hK, if_neg hK]
          exact ⟨_, _, many_a, by__a, tu_a, fo_a, lp_a, lt_a, lu_a, six_a, all_a, w_a, b_a, c_a, ti_a, s_a, r_a, wo_a, im_a, be_a, br_a, mem_a, path_a, _, _, _, _, _, _, _, _, _, _, _, _, _, _, _, _, _, _, _, _, _, rfl, rfl, hI.put (fun _ => hF)⟩
      · rw [if_neg gy, if_neg n10, if_neg gy, if_pos z00]
        exact ⟨_, _, _, _, _, _, _, _, _, _, _, _, _, _, _, _, _, _, _, _, _, _, _, _, _, _, _, _, _, _, _, _, _, _, _, _, _, _, _, _, _, _, _, _, rfl, rfl, same⟩
    · rw [if_neg gx, if_neg n10, if_neg gx, if_pos z00]
      exact ⟨_, _, _, _, _, _, _, _, _, _, _, _, _, _, _, _, _, _, _, _, _, _, _, _, _, _, _, _, _, _, _, _, _, _, _, _, _, _, _, _, _, _, _, _, rfl, rfl, same⟩
  · rw [if_neg g, if_neg n10, if_neg g, if_pos z00]
    exact ⟨_, _, _, _, _, _, _, _, _, _, _, _, _, _, _, _, _, _, _, _, _, _, _, _, _, _, _, _, _, _, _, _, _, _, _, _, _, _, _, _, _, _, _, _, rfl, rfl, same⟩
