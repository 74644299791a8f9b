/-! calls: kin, kind, ways, among -/
theorem bd23_s {a0 a1 a2 a3 a4 a5 a6 a7 a8 a9 a10 a11 a12 a13 a14 a15 a16 a17 a18 a19 a20 a21 a22 R : Type} (x0 : a0) (x1 : a1) (x2 : a2) (x3 : a3) (x4 : a4) (x5 : a5) (x6 : a6) (x7 : a7) (x8 : a8) (x9 : a9) (x10 : a10) (x11 : a11) (x12 : a12) (x13 : a13) (x14 : a14) (x15 : a15) (x16 : a16) (x17 : a17) (x18 : a18) (x19 : a19) (x20 : a20) (x21 : a21) (x22 : a22) (f : a0 → a1 → a2 → a3 → a4 → a5 → a6 → a7 → a8 → a9 → a10 → a11 → a12 → a13 → a14 → a15 → a16 → a17 → a18 → a19 → a20 → a21 → a22 → Option R) : bd23 (some (x0, x1, x2, x3, x4, x5, x6, x7, x8, x9, x10, x11, x12, x13, x14, x15, x16, x17, x18, x19, x20, x21, x22)) f = f x0 x1 x2 x3 x4 x5 x6 x7 x8 x9 x10 x11 x12 x13 x14 x15 x16 x17 x18 x19 x20 x21 x22 := rfl
theorem bd20_s {a0 a1 a2 a3 a4 a5 a6 a7 a8 a9 a10 a11 a12 a13 a14 a15 a16 a17 a18 a19 R : Type} (x0 : a0) (x1 : a1) (x2 : a2) (x3 : a3) (x4 : a4) (x5 : a5) (x6 : a6) (x7 : a7) (x8 : a8) (x9 : a9) (x10 : a10) (x11 : a11) (x12 : a12) (x13 : a13) (x14 : a14) (x15 : a15) (x16 : a16) (x17 : a17) (x18 : a18) (x19 : a19) (f : a0 → a1 → a2 → a3 → a4 → a5 → a6 → a7 → a8 → a9 → a10 → a11 → a12 → a13 → a14 → a15 → a16 → a17 → a18 → a19 → Option R) : bd20 (some (x0, x1, x2, x3, x4, x5, x6, x7, x8, x9, x10, x11, x12, x13, x14, x15, x16, x17, x18, x19)) f = f x0 x1 x2 x3 x4 x5 x6 x7 x8 x9 x10 x11 x12 x13 x14 x15 x16 x17 x18 x19 := rfl
theorem kin2 {Q : F6} {f : FS} (hf : FOK f Q) {k : Nat} (hk : k < 12) {num : Nat → Int32} (hn : a6 (fun i => num (6 * k + i)) Q) {p : Nat} (hp : p = 3 ∨ p = 5 ∨ p = 7) {box : Nat → Int32} (hbx : bxA box) (fo : Int32) (lp : Int32) (lt : Int32) (lu : Int32) (six : Nat → Int32) (all : Nat → Int32) (w : Nat → Int32) (b : Nat → Int32) (c : Nat → Int32) (ti : Int32) (s : Nat → Int32) (r : Nat → Int32) (wo : Nat → Int32) (im : Nat → Int32) (be : Nat → Int32) (br : Nat → Int32) (tn : Int32) (mt : Int32) (mu : Int32) (kinds : Int32) (q : Nat → Int64) (ba : Nat → Int64) (le : Nat → Int64) (tb : Nat → Int64) (ro : Nat → Int64) (li : Nat → Int64) (sz : Nat → Int32) (tr : Nat → Int64) (ln : Nat → Int64) (mk : Nat → Int64) (tc : Nat → Int64) (md : Nat → Int64) (kf : Nat → Int64) (kt : Nat → Int32) (kw : Nat → Int32) {fu : Nat} (hfu : 4000000000000 ≤ fu) : ∃ ans size' many' by_' tu' fo' lp' lt' lu' six' all' w' b' c' ti' s' r' wo' im' be' br' mem' path' tn' mt' mu' kinds' q' ba' le' tb' ro' li' sz' tr' ln' mk' tc' md' kf' kt' kw', fX6_sizeOfKin fu (ix p) f.1 f.2.1 f.2.2.2.1 f.2.2.2.2.2.1 f.2.2.2.2.2.2.1 f.2.2.2.2.2.2.2.1 f.2.2.2.2.2.2.2.2.1 fo lp lt lu six all w b c ti s r box wo im be br f.2.2.2.2.2.2.2.2.2.1 f.2.2.2.2.2.2.2.2.2.2 (ix k) = some (ans, size', many', by_', tu', fo', lp', lt', lu', six', all', w', b', c', ti', s', r', wo', im', be', br', mem', path') ∧ fX7_findKin fu (ix p) tn mt mu kinds num q ba le tb ro li sz tr ln mk tc md kf kt kw (ix k) = some (ans, tn', mt', mu', kinds', q', ba', le', tb', ro', li', sz', tr', ln', mk', tc', md', kf', kt', kw') ∧ FOK (f.1, f.2.1, f.2.2.1, f.2.2.2.1, f.2.2.2.2.1, size', many', by_', tu', mem', path') Q ∧ ((∃ K, Kg (qf_disc Q) K ∧ ans = ix K.1.length ∧ CK K size' many' tu' mem' path' ∧ RK K kinds' kf' kt' kw') ∨ ¬ (0 : Int32) ≤ ans) := by
  obtain ⟨f1, f2, f3, L, T, n, f4, f5, f6, f7, f8⟩ := hf
  have hd0 := f1.2.2
  obtain ⟨s1, s2, s3, _⟩ := least_S (fit_pd f1) f4
  have hS : qr_S L ∧ qf_pd L ∧ qf_disc L = qf_disc Q ∧ n ∣ 48 ∧ 0 < n := ⟨s1, s2, s3, least_48 (fit_pd f1) f4⟩
  obtain ⟨ans, size_a, many_a, by__a, tu_a, fo_a, lp_a, lt_a, lu_a, six_a, all_a, w_a, b_a, c_a, ti_a, s_a, r_a, wo_a, im_a, be_a, br_a, mem_a, path_a, e1, g1, g2, g3⟩ := x6_sizeOfKin (show 0 ≤ qf_disc Q ∧ qf_disc Q ≤ 6912 from ⟨by omega, fit_D f1⟩) hS hp (k := ix k) (ix_ok hk (by decide)) f6 hbx f.2.2.2.2.2.1 f.2.2.2.2.2.2.1 f.2.2.2.2.2.2.2.1 f.2.2.2.2.2.2.2.2.1 fo lp lt lu six all w b c ti s r wo im be br f.2.2.2.2.2.2.2.2.2.1 f.2.2.2.2.2.2.2.2.2.2 f8 (F := fu) (by omega)
  obtain ⟨ans2, tn_b, mt_b, mu_b, kinds_b, q_b, ba_b, le_b, tb_b, ro_b, li_b, sz_b, tr_b, ln_b, mk_b, tc_b, md_b, kf_b, kt_b, kw_b, e2, h2, h3⟩ := l7_findKin (fit_pd f1) (fit_qs f1) (fit_qB f1) (fit_D f1) f4 hp hk hn tn mt mu kinds q ba le tb ro li sz tr ln mk tc md kf kt kw hfu
  have hF : FOK (f.1, f.2.1, f.2.2.1, f.2.2.2.1, f.2.2.2.2.1, size_a, many_a, by__a, tu_a, mem_a, path_a) Q := ⟨f1, f2, f3, L, T, n, f4, f5, f6, f7, g1⟩
  rw [← f3, ← f5] at e1
  by_cases g : (p : Int) ∣ qf_disc Q
  · have a1 := g2 g
    have a2 := h2 g
    subst a1; subst a2
    exact ⟨_, size_a, many_a, by__a, tu_a, fo_a, lp_a, lt_a, lu_a, six_a, all_a, w_a, b_a, c_a, ti_a, s_a, r_a, wo_a, im_a, be_a, br_a, mem_a, path_a, tn_b, mt_b, mu_b, kinds_b, q_b, ba_b, le_b, tb_b, ro_b, li_b, sz_b, tr_b, ln_b, mk_b, tc_b, md_b, kf_b, kt_b, kw_b, e1, e2, hF, Or.inr (by decide)⟩
  · obtain ⟨a1, a2, a3⟩ := g3 g
    obtain ⟨a4, a5⟩ := h3 g
    subst a1; subst a4
    refine ⟨_, size_a, many_a, by__a, tu_a, fo_a, lp_a, lt_a, lu_a, six_a, all_a, w_a, b_a, c_a, ti_a, s_a, r_a, wo_a, im_a, be_a, br_a, mem_a, path_a, tn_b, mt_b, mu_b, kinds_b, q_b, ba_b, le_b, tb_b, ro_b, li_b, sz_b, tr_b, ln_b, mk_b, tc_b, md_b, kf_b, kt_b, kw_b, e1, e2, hF, ?_⟩
    cases ho : (kinOf p L n).2.2 with
    | true =>
      right
      unfold kA
      rw [if_pos ho]
      decide
    | false =>
      left
      refine ⟨kinOf p L n, a3, ?_, a2, (a5 ho).1⟩
      unfold kA
      rw [if_neg (by rw [ho]; decide)]
theorem S_kin {held p_ : Int32} {box : Nat → Int32} {F : Nat → FS} {forms prime : Int32} {num : Nat → Int32} {hc p : Nat} {QF : Nat → F6} (h : INVx held p_ box F forms prime num hc p QF) {k : Nat} (p0 : Int32) (hk : okI p0 12 → p0.toNatClampNeg = k) (fo : Int32) (lp : Int32) (lt : Int32) (lu : Int32) (six : Nat → Int32) (all : Nat → Int32) (w : Nat → Int32) (b : Nat → Int32) (c : Nat → Int32) (ti : Int32) (s : Nat → Int32) (r : Nat → Int32) (wo : Nat → Int32) (im : Nat → Int32) (be : Nat → Int32) (br : Nat → Int32) (tn : Int32) (mt : Int32) (mu : Int32) (kinds : Int32) (q : Nat → Int64) (ba : Nat → Int64) (le : Nat → Int64) (tb : Nat → Int64) (ro : Nat → Int64) (li : Nat → Int64) (sz : Nat → Int32) (tr : Nat → Int64) (ln : Nat → Int64) (mk : Nat → Int64) (tc : Nat → Int64) (md : Nat → Int64) (kf : Nat → Int64) (kt : Nat → Int32) (kw : Nat → Int32) {fu : Nat} (hfu : 4000000000000 ≤ fu) : ∃ a size' many' by_' tu' fo' lp' lt' lu' six' all' w' b' c' ti' s' r' wo' im' be' br' mem' path' tn' mt' mu' kinds' q' ba' le' tb' ro' li' sz' tr' ln' mk' tc' md' kf' kt' kw', fX6_kin fu held p_ (F k).1 (F k).2.1 (F k).2.2.2.1 (F k).2.2.2.2.2.1 (F k).2.2.2.2.2.2.1 (F k).2.2.2.2.2.2.2.1 (F k).2.2.2.2.2.2.2.2.1 fo lp lt lu six all w b c ti s r box wo im be br (F k).2.2.2.2.2.2.2.2.2.1 (F k).2.2.2.2.2.2.2.2.2.2 p0 = some (a, size', many', by_', tu', fo', lp', lt', lu', six', all', w', b', c', ti', s', r', wo', im', be', br', mem', path') ∧ fX7_kin fu forms prime tn mt mu kinds num q ba le tb ro li sz tr ln mk tc md kf kt kw p0 = some (a, tn', mt', mu', kinds', q', ba', le', tb', ro', li', sz', tr', ln', mk', tc', md', kf', kt', kw') ∧ INVx held p_ box (va_up F k ((F k).1, (F k).2.1, (F k).2.2.1, (F k).2.2.2.1, (F k).2.2.2.2.1, size', many', by_', tu', mem', path')) forms prime num hc p QF := by
  have hI := h
  have same : INVx held p_ box (va_up F k (F k)) forms prime num hc p QF := by rw [va_up_id]; exact hI
  obtain ⟨h1, h2, h3, h4, h5, h6, h7, h8⟩ := h
  obtain ⟨z, hz, rfl⟩ := z_ex p0
  subst h3; subst h4; subst h6; subst h7
  unfold fX6_kin fX7_kin
  rw [x6_unk h1 hz, x7_isForm h1 hz, bd1_s, bd1_s]
  dsimp only [nm_eq]
  by_cases g : 0 ≤ z ∧ z < hc
  ·
    obtain ⟨ek, hkc⟩ := kn g h1 hk
    obtain ⟨hf, hn⟩ := h8 k hkc
    obtain ⟨ans, size_a, many_a, by__a, tu_a, fo_a, lp_a, lt_a, lu_a, six_a, all_a, w_a, b_a, c_a, ti_a, s_a, r_a, wo_a, im_a, be_a, br_a, mem_a, path_a, tn_b, mt_b, mu_b, kinds_b, q_b, ba_b, le_b, tb_b, ro_b, li_b, sz_b, tr_b, ln_b, mk_b, tc_b, md_b, kf_b, kt_b, kw_b, e1, e2, hF, hK⟩ := kin2 hf (show k < 12 by omega) hn h2 h5 fo lp lt lu six all w b c ti s r wo im be br tn mt mu kinds q ba le tb ro li sz tr ln mk tc md kf kt kw hfu
    rw [if_pos g, if_pos z00, if_pos g, if_neg n10, ek, e1, bd23_s, e2, bd20_s]
    exact ⟨_, _, many_a, by__a, tu_a, fo_a, lp_a, lt_a, lu_a, six_a, all_a, w_a, b_a, c_a, ti_a, s_a, r_a, wo_a, im_a, be_a, br_a, mem_a, path_a, tn_b, mt_b, mu_b, _, q_b, ba_b, le_b, tb_b, ro_b, li_b, sz_b, tr_b, ln_b, mk_b, tc_b, md_b, kf_b, kt_b, kw_b, rfl, rfl, hI.put (fun _ => hF)⟩
  · rw [if_neg g, if_neg n10, if_neg g, if_pos z00]
    exact ⟨_, _, _, _, _, _, _, _, _, _, _, _, _, _, _, _, _, _, _, _, _, _, _, _, _, _, _, _, _, _, _, _, _, _, _, _, _, _, _, _, _, _, rfl, rfl, same⟩
theorem ix_m1 {m : Nat} (h : m ≤ 100) : ix m - 1 = Int32.ofInt ((m : Int) - 1) := by
  have e1 : (1 : Int32) = Int32.ofInt 1 := rfl
  unfold ix
  rw [e1, ← Int32.ofInt_sub]
theorem x6_outK {m : Nat} (hm : m ≤ 100) {z : Int} (hz : rI z) : fX6_isOutside (Int32.ofInt z) 0 (ix m - 1) = some (if 0 ≤ z ∧ z ≤ (m : Int) - 1 then 0 else 1) := by
  rw [ix_m1 hm]
  exact x6_outL hz (a := 0) (b := (m : Int) - 1) (by decide) rfl ⟨by omega, by omega⟩ ⟨by omega, by omega⟩
theorem x7_inK {m : Nat} (hm : m ≤ 100) {z : Int} (hz : rI z) : fX7_in (Int32.ofInt z).toInt64 0 (ix m - 1).toInt64 = some (if 0 ≤ z ∧ z ≤ (m : Int) - 1 then 1 else 0) := by
  rw [ix_m1 hm, zi_wide (a := (m : Int) - 1) ⟨by omega, by omega⟩]
  exact x7_inL hz (a := 0) (b := (m : Int) - 1) zl_0 rfl ⟨by omega, by omega⟩ ⟨by omega, by omega⟩
theorem S_kind {held p_ : Int32} {box : Nat → Int32} {F : Nat → FS} {forms prime : Int32} {num : Nat → Int32} {hc p : Nat} {QF : Nat → F6} (h : INVx held p_ box F forms prime num hc p QF) {k : Nat} (p0 p1 p2 : Int32) (hk : okI p0 12 → p0.toNatClampNeg = k) (fo : Int32) (lp : Int32) (lt : Int32) (lu : Int32) (six : Nat → Int32) (all : Nat → Int32) (w : Nat → Int32) (b : Nat → Int32) (c : Nat → Int32) (ti : Int32) (s : Nat → Int32) (r : Nat → Int32) (wo : Nat → Int32) (im : Nat → Int32) (be : Nat → Int32) (br : Nat → Int32) (tn : Int32) (mt : Int32) (mu : Int32) (kinds : Int32) (q : Nat → Int64) (ba : Nat → Int64) (le : Nat → Int64) (tb : Nat → Int64) (ro : Nat → Int64) (li : Nat → Int64) (sz : Nat → Int32) (tr : Nat → Int64) (ln : Nat → Int64) (mk : Nat → Int64) (tc : Nat → Int64) (md : Nat → Int64) (kf : Nat → Int64) (kt : Nat → Int32) (kw : Nat → Int32) {fu : Nat} (hfu : 4000000000000 ≤ fu) : ∃ a size' many' by_' tu' fo' lp' lt' lu' six' all' w' b' c' ti' s' r' wo' im' be' br' mem' path' tn' mt' mu' kinds' q' ba' le' tb' ro' li' sz' tr' ln' mk' tc' md' kf' kt' kw', fX6_kind fu held p_ (F k).1 (F k).2.1 (F k).2.2.2.1 (F k).2.2.2.2.2.1 (F k).2.2.2.2.2.2.1 (F k).2.2.2.2.2.2.2.1 (F k).2.2.2.2.2.2.2.2.1 fo lp lt lu six all w b c ti s r box wo im be br (F k).2.2.2.2.2.2.2.2.2.1 (F k).2.2.2.2.2.2.2.2.2.2 p0 p1 p2 = some (a, size', many', by_', tu', fo', lp', lt', lu', six', all', w', b', c', ti', s', r', wo', im', be', br', mem', path') ∧ fX7_kind fu forms prime tn mt mu kinds num q ba le tb ro li sz tr ln mk tc md kf kt kw p0 p1 p2 = some (a, tn', mt', mu', kinds', q', ba', le', tb', ro', li', sz', tr', ln', mk', tc', md', kf', kt', kw') ∧ INVx held p_ box (va_up F k ((F k).1, (F k).2.1, (F k).2.2.1, (F k).2.2.2.1, (F k).2.2.2.2.1, size', many', by_', tu', mem', path')) forms prime num hc p QF := by
  have hI := h
  have same : INVx held p_ box (va_up F k (F k)) forms prime num hc p QF := by rw [va_up_id]; exact hI
  obtain ⟨h1, h2, h3, h4, h5, h6, h7, h8⟩ := h
  obtain ⟨z, hz, rfl⟩ := z_ex p0
  obtain ⟨i, hi, rfl⟩ := z_ex p1
  obtain ⟨y, hy, rfl⟩ := z_ex p2
  subst h3; subst h4; subst h6; subst h7
  have o1 : fX6_isOutside (Int32.ofInt y) 0 6 = some (if 0 ≤ y ∧ y ≤ 6 then 0 else 1) := x6_outL hy (a := 0) (b := 6) (by first | rfl | decide) (by first | rfl | decide) ⟨by omega, by omega⟩ ⟨by omega, by omega⟩
  have o2 : fX7_in (Int32.ofInt y).toInt64 0 6 = some (if 0 ≤ y ∧ y ≤ 6 then 1 else 0) := x7_inL hy (a := 0) (b := 6) (by first | rfl | decide) (by first | rfl | decide) ⟨by omega, by omega⟩ ⟨by omega, by omega⟩
  unfold fX6_kind fX7_kind
  rw [x6_unk h1 hz, x7_isForm h1 hz, bd1_s, bd1_s]
  by_cases g : 0 ≤ z ∧ z < hc
  ·
    obtain ⟨ek, hkc⟩ := kn g h1 hk
    obtain ⟨hf, hn⟩ := h8 k hkc
    obtain ⟨ans, size_a, many_a, by__a, tu_a, fo_a, lp_a, lt_a, lu_a, six_a, all_a, w_a, b_a, c_a, ti_a, s_a, r_a, wo_a, im_a, be_a, br_a, mem_a, path_a, tn_b, mt_b, mu_b, kinds_b, q_b, ba_b, le_b, tb_b, ro_b, li_b, sz_b, tr_b, ln_b, mk_b, tc_b, md_b, kf_b, kt_b, kw_b, e1, e2, hF, hK⟩ := kin2 hf (show k < 12 by omega) hn h2 h5 fo lp lt lu six all w b c ti s r wo im be br tn mt mu kinds q ba le tb ro li sz tr ln mk tc md kf kt kw hfu
    rw [if_pos g, if_pos z00, if_pos g, if_neg n10, o1, o2, bd1_s, bd1_s]
    by_cases gy : 0 ≤ y ∧ y ≤ 6
    · rw [if_pos gy, if_pos z00, if_pos gy, if_neg n10, ek, e1, bd23_s, e2, bd20_s]
      rcases hK with ⟨K, k1, k2, k3, k4⟩ | hK
      · obtain ⟨m1, m2, m3, _⟩ := k1
        obtain ⟨c1, c2, c3, c4⟩ := k3
        obtain ⟨r1, r2, r3⟩ := k4
        subst k2; subst r1
        rw [if_pos (ix_nn (by omega)), if_pos (ix_nn (by omega)), x6_outK (by omega) hi, x7_inK (by omega) hi, bd1_s, bd1_s]
        dsimp only [nm_eq]
        by_cases gi : 0 ≤ i ∧ i ≤ (K.1.length : Int) - 1
        · have ei := z_ix gi.1
          have hin : i.toNat < K.1.length := by omega
          generalize i.toNat = i' at ei hin
          have ey := z_ix gy.1
          have hyn : y.toNat ≤ 6 := by omega
          generalize y.toNat = y' at ey hyn
          have hx : K.1[i']? = some K.1[i'] := List.getElem?_eq_getElem hin
          obtain ⟨c5, c6⟩ := c3 i' _ hx
          obtain ⟨r5, r6⟩ := r2 i' _ hx
          rw [if_pos gi, if_pos z00, if_pos gi, if_neg n10, if_pos (ix_ok (by omega) (by decide)), ei, ey, ix_6]
          by_cases y6 : 6 ≤ y'
          · rw [if_pos ((ix_le (by decide) (by omega)).mpr y6), if_pos ((ix_le (by decide) (by omega)).mpr y6), if_pos (ix_ok (by omega) (by decide)), if_pos (ix_ok (by omega) (by decide)), ix_nat (by omega), c6, r6]
            exact ⟨_, _, many_a, by__a, tu_a, fo_a, lp_a, lt_a, lu_a, six_a, all_a, w_a, b_a, c_a, ti_a, s_a, r_a, wo_a, im_a, be_a, br_a, mem_a, path_a, tn_b, mt_b, mu_b, _, q_b, ba_b, le_b, tb_b, ro_b, li_b, sz_b, tr_b, ln_b, mk_b, tc_b, md_b, kf_b, kt_b, kw_b, rfl, rfl, hI.put (fun _ => hF)⟩
          · have er : kf_b (6 * i' + y') = Int64.ofInt (g6 (K.1[i']).1 y') := al6_at r5 (i := y') (by omega)
            rw [if_neg (fun t => y6 ((ix_le (by decide) (by omega)).mp t)), if_neg (fun t => y6 ((ix_le (by decide) (by omega)).mp t)), if_pos (ix_ok (by omega) (by decide)), if_pos (ix_ok (by omega) (by decide)), ix_mul, ix_add, if_pos (ix_ok (by omega) (by decide)), ix_nat (by omega), ix_nat (by omega), ix_nat (by omega), a6_at c5 (by omega), er, zi_narrow]
            exact ⟨_, _, many_a, by__a, tu_a, fo_a, lp_a, lt_a, lu_a, six_a, all_a, w_a, b_a, c_a, ti_a, s_a, r_a, wo_a, im_a, be_a, br_a, mem_a, path_a, tn_b, mt_b, mu_b, _, q_b, ba_b, le_b, tb_b, ro_b, li_b, sz_b, tr_b, ln_b, mk_b, tc_b, md_b, kf_b, kt_b, kw_b, rfl, rfl, hI.put (fun _ => hF)⟩
        · rw [if_neg gi, if_neg n10, if_neg gi, if_pos z00]
          exact ⟨_, _, many_a, by__a, tu_a, fo_a, lp_a, lt_a, lu_a, six_a, all_a, w_a, b_a, c_a, ti_a, s_a, r_a, wo_a, im_a, be_a, br_a, mem_a, path_a, tn_b, mt_b, mu_b, _, q_b, ba_b, le_b, tb_b, ro_b, li_b, sz_b, tr_b, ln_b, mk_b, tc_b, md_b, kf_b, kt_b, kw_b, rfl, rfl, hI.put (fun _ => hF)⟩
      · rw [if_neg hK, if_neg hK]
        exact ⟨_, _, many_a, by__a, tu_a, fo_a, lp_a, lt_a, lu_a, six_a, all_a, w_a, b_a, c_a, ti_a, s_a, r_a, wo_a, im_a, be_a, br_a, mem_a, path_a, tn_b, mt_b, mu_b, _, q_b, ba_b, le_b, tb_b, ro_b, li_b, sz_b, tr_b, ln_b, mk_b, tc_b, md_b, kf_b, kt_b, kw_b, rfl, rfl, hI.put (fun _ => hF)⟩
    · rw [if_neg gy, if_neg n10, if_neg gy, if_pos z00]
      exact ⟨_, _, _, _, _, _, _, _, _, _, _, _, _, _, _, _, _, _, _, _, _, _, _, _, _, _, _, _, _, _, _, _, _, _, _, _, _, _, _, _, _, _, rfl, rfl, same⟩
  · rw [if_neg g, if_neg n10, if_neg g, if_pos z00]
    exact ⟨_, _, _, _, _, _, _, _, _, _, _, _, _, _, _, _, _, _, _, _, _, _, _, _, _, _, _, _, _, _, _, _, _, _, _, _, _, _, _, _, _, _, rfl, rfl, same⟩
theorem S_ways {held p_ : Int32} {box : Nat → Int32} {F : Nat → FS} {forms prime : Int32} {num : Nat → Int32} {hc p : Nat} {QF : Nat → F6} (h : INVx held p_ box F forms prime num hc p QF) {k : Nat} (p0 p1 p2 : Int32) (hk : okI p0 12 → p0.toNatClampNeg = k) (fo : Int32) (lp : Int32) (lt : Int32) (lu : Int32) (six : Nat → Int32) (all : Nat → Int32) (w : Nat → Int32) (b : Nat → Int32) (c : Nat → Int32) (ti : Int32) (s : Nat → Int32) (r : Nat → Int32) (wo : Nat → Int32) (im : Nat → Int32) (be : Nat → Int32) (br : Nat → Int32) (tn : Int32) (mt : Int32) (mu : Int32) (kinds : Int32) (q : Nat → Int64) (ba : Nat → Int64) (le : Nat → Int64) (tb : Nat → Int64) (ro : Nat → Int64) (li : Nat → Int64) (sz : Nat → Int32) (tr : Nat → Int64) (ln : Nat → Int64) (mk : Nat → Int64) (tc : Nat → Int64) (md : Nat → Int64) (kf : Nat → Int64) (kt : Nat → Int32) (kw : Nat → Int32) {fu : Nat} (hfu : 4000000000000 ≤ fu) : ∃ a size' many' by_' tu' fo' lp' lt' lu' six' all' w' b' c' ti' s' r' wo' im' be' br' mem' path' tn' mt' mu' kinds' q' ba' le' tb' ro' li' sz' tr' ln' mk' tc' md' kf' kt' kw', fX6_ways fu held p_ (F k).1 (F k).2.1 (F k).2.2.2.1 (F k).2.2.2.2.2.1 (F k).2.2.2.2.2.2.1 (F k).2.2.2.2.2.2.2.1 (F k).2.2.2.2.2.2.2.2.1 fo lp lt lu six all w b c ti s r box wo im be br (F k).2.2.2.2.2.2.2.2.2.1 (F k).2.2.2.2.2.2.2.2.2.2 p0 p1 p2 = some (a, size', many', by_', tu', fo', lp', lt', lu', six', all', w', b', c', ti', s', r', wo', im', be', br', mem', path') ∧ fX7_ways fu forms prime tn mt mu kinds num q ba le tb ro li sz tr ln mk tc md kf kt kw p0 p1 p2 = some (a, tn', mt', mu', kinds', q', ba', le', tb', ro', li', sz', tr', ln', mk', tc', md', kf', kt', kw') ∧ INVx held p_ box (va_up F k ((F k).1, (F k).2.1, (F k).2.2.1, (F k).2.2.2.1, (F k).2.2.2.2.1, size', many', by_', tu', mem', path')) forms prime num hc p QF := by
  have hI := h
  have same : INVx held p_ box (va_up F k (F k)) forms prime num hc p QF := by rw [va_up_id]; exact hI
  obtain ⟨h1, h2, h3, h4, h5, h6, h7, h8⟩ := h
  obtain ⟨z, hz, rfl⟩ := z_ex p0
  obtain ⟨i, hi, rfl⟩ := z_ex p1
  obtain ⟨y, hy, rfl⟩ := z_ex p2
  subst h3; subst h4; subst h6; subst h7
  unfold fX6_ways fX7_ways
  rw [x6_unk h1 hz, x7_isForm h1 hz, bd1_s, bd1_s]
  by_cases g : 0 ≤ z ∧ z < hc
  ·
    obtain ⟨ek, hkc⟩ := kn g h1 hk
    obtain ⟨hf, hn⟩ := h8 k hkc
    obtain ⟨ans, size_a, many_a, by__a, tu_a, fo_a, lp_a, lt_a, lu_a, six_a, all_a, w_a, b_a, c_a, ti_a, s_a, r_a, wo_a, im_a, be_a, br_a, mem_a, path_a, tn_b, mt_b, mu_b, kinds_b, q_b, ba_b, le_b, tb_b, ro_b, li_b, sz_b, tr_b, ln_b, mk_b, tc_b, md_b, kf_b, kt_b, kw_b, e1, e2, hF, hK⟩ := kin2 hf (show k < 12 by omega) hn h2 h5 fo lp lt lu six all w b c ti s r wo im be br tn mt mu kinds q ba le tb ro li sz tr ln mk tc md kf kt kw hfu
    rw [if_pos g, if_pos z00, if_pos g, if_neg n10, ek, e1, bd23_s, e2, bd20_s]
    rcases hK with ⟨K, k1, k2, k3, k4⟩ | hK
    · obtain ⟨m1, m2, m3, _⟩ := k1
      obtain ⟨c1, c2, c3, c4⟩ := k3
      obtain ⟨r1, r2, r3⟩ := k4
      subst k2; subst r1
      rw [if_pos (ix_nn (by omega)), if_pos (ix_nn (by omega)), x6_outK (by omega) hi, x7_inK (by omega) hi, bd1_s, bd1_s]
      dsimp only [nm_eq]
      by_cases gi : 0 ≤ i ∧ i ≤ (K.1.length : Int) - 1
      · rw [if_pos gi, if_pos z00, if_pos gi, if_neg n10, x6_outK (by omega) hy, x7_inK (by omega) hy, bd1_s, bd1_s]
        by_cases gy : 0 ≤ y ∧ y ≤ (K.1.length : Int) - 1
        · have ei := z_ix gi.1
          have hin : i.toNat < K.1.length := by omega
          generalize i.toNat = i' at ei hin
          have ey := z_ix gy.1
          have hyn : y.toNat < K.1.length := by omega
          generalize y.toNat = y' at ey hyn
          have e16 : (16 : Int32) = ix 16 := rfl
          rw [if_pos gy, if_pos z00, if_pos gy, if_neg n10, if_pos (ix_ok (by omega) (by decide)), ei, ey, if_pos (ix_ok (by omega) (by decide)), if_pos (ix_ok (by omega) (by decide)), e16, ix_mul, ix_add, if_pos (ix_ok (by omega) (by decide)), ix_nat (by omega), ix_nat (by omega), ix_nat (by omega), c4 i' y' hin (by omega), r3 i' y' (by omega) (by omega)]
          exact ⟨_, _, many_a, by__a, tu_a, fo_a, lp_a, lt_a, lu_a, six_a, all_a, w_a, b_a, c_a, ti_a, s_a, r_a, wo_a, im_a, be_a, br_a, mem_a, path_a, tn_b, mt_b, mu_b, _, q_b, ba_b, le_b, tb_b, ro_b, li_b, sz_b, tr_b, ln_b, mk_b, tc_b, md_b, kf_b, kt_b, kw_b, rfl, rfl, hI.put (fun _ => hF)⟩
        · rw [if_neg gy, if_neg n10, if_neg gy, if_pos z00]
          exact ⟨_, _, many_a, by__a, tu_a, fo_a, lp_a, lt_a, lu_a, six_a, all_a, w_a, b_a, c_a, ti_a, s_a, r_a, wo_a, im_a, be_a, br_a, mem_a, path_a, tn_b, mt_b, mu_b, _, q_b, ba_b, le_b, tb_b, ro_b, li_b, sz_b, tr_b, ln_b, mk_b, tc_b, md_b, kf_b, kt_b, kw_b, rfl, rfl, hI.put (fun _ => hF)⟩
      · rw [if_neg gi, if_neg n10, if_neg gi, if_pos z00]
        exact ⟨_, _, many_a, by__a, tu_a, fo_a, lp_a, lt_a, lu_a, six_a, all_a, w_a, b_a, c_a, ti_a, s_a, r_a, wo_a, im_a, be_a, br_a, mem_a, path_a, tn_b, mt_b, mu_b, _, q_b, ba_b, le_b, tb_b, ro_b, li_b, sz_b, tr_b, ln_b, mk_b, tc_b, md_b, kf_b, kt_b, kw_b, rfl, rfl, hI.put (fun _ => hF)⟩
    · rw [if_neg hK, if_neg hK]
      exact ⟨_, _, many_a, by__a, tu_a, fo_a, lp_a, lt_a, lu_a, six_a, all_a, w_a, b_a, c_a, ti_a, s_a, r_a, wo_a, im_a, be_a, br_a, mem_a, path_a, tn_b, mt_b, mu_b, _, q_b, ba_b, le_b, tb_b, ro_b, li_b, sz_b, tr_b, ln_b, mk_b, tc_b, md_b, kf_b, kt_b, kw_b, rfl, rfl, hI.put (fun _ => hF)⟩
  · rw [if_neg g, if_neg n10, if_neg g, if_pos z00]
    exact ⟨_, _, _, _, _, _, _, _, _, _, _, _, _, _, _, _, _, _, _, _, _, _, _, _, _, _, _, _, _, _, _, _, _, _, _, _, _, _, _, _, _, _, rfl, rfl, same⟩
theorem S_among {held p_ : Int32} {box : Nat → Int32} {F : Nat → FS} {forms prime : Int32} {num : Nat → Int32} {hc p : Nat} {QF : Nat → F6} (h : INVx held p_ box F forms prime num hc p QF) {k : Nat} {j : Nat} (p0 p1 : Int32) (hk : okI p0 12 → p0.toNatClampNeg = k) (hj : okI p1 12 → p1.toNatClampNeg = j) (fo : Int32) (lp : Int32) (lt : Int32) (lu : Int32) (six : Nat → Int32) (all : Nat → Int32) (w : Nat → Int32) (b : Nat → Int32) (c : Nat → Int32) (ti : Int32) (s : Nat → Int32) (r : Nat → Int32) (wo : Nat → Int32) (im : Nat → Int32) (be : Nat → Int32) (br : Nat → Int32) (tn : Int32) (mt : Int32) (mu : Int32) (kinds : Int32) (q : Nat → Int64) (ba : Nat → Int64) (le : Nat → Int64) (tb : Nat → Int64) (ro : Nat → Int64) (li : Nat → Int64) (sz : Nat → Int32) (tr : Nat → Int64) (ln : Nat → Int64) (mk : Nat → Int64) (tc : Nat → Int64) (md : Nat → Int64) (kf : Nat → Int64) (kt : Nat → Int32) (kw : Nat → Int32) {fu : Nat} (hfu : 4000000000000 ≤ fu) : ∃ a size' many' by_' tu' fo' lp' lt' lu' six' all' w' b' c' ti' s' r' wo' im' be' br' mem' path' tn' mt' mu' kinds' q' ba' le' tb' ro' li' sz' tr' ln' mk' tc' md' kf' kt' kw', fX6_among fu held p_ (F k).1 (F k).2.1 (F k).2.2.2.1 (F k).2.2.2.2.2.1 (F k).2.2.2.2.2.2.1 (F k).2.2.2.2.2.2.2.1 (F k).2.2.2.2.2.2.2.2.1 fo lp lt lu six all w b c ti s r box wo im be br (F j).2.2.2.1 (F k).2.2.2.2.2.2.2.2.2.1 (F k).2.2.2.2.2.2.2.2.2.2 p0 p1 = some (a, size', many', by_', tu', fo', lp', lt', lu', six', all', w', b', c', ti', s', r', wo', im', be', br', mem', path') ∧ fX7_among fu forms prime tn mt mu kinds num q ba le tb ro li sz tr ln mk tc md kf kt kw p0 p1 = some (a, tn', mt', mu', kinds', q', ba', le', tb', ro', li', sz', tr', ln', mk', tc', md', kf', kt', kw') ∧ INVx held p_ box (va_up F k ((F k).1, (F k).2.1, (F k).2.2.1, (F k).2.2.2.1, (F k).2.2.2.2.1, size', many', by_', tu', mem', path')) forms prime num hc p QF := by
  have hI := h
  have same : INVx held p_ box (va_up F k (F k)) forms prime num hc p QF := by rw [va_up_id]; exact hI
  obtain ⟨h1, h2, h3, h4, h5, h6, h7, h8⟩ := h
  obtain ⟨z, hz, rfl⟩ := z_ex p0
  obtain ⟨y, hy, rfl⟩ := z_ex p1
  subst h3; subst h4; subst h6; subst h7
  unfold fX6_among fX7_among
  rw [x6_unk h1 hz, x7_isForm h1 hz, bd1_s, bd1_s]
  dsimp only [nm_eq]
  by_cases g : 0 ≤ z ∧ z < hc
  ·
    obtain ⟨ek, hkc⟩ := kn g h1 hk
    obtain ⟨hf, hn⟩ := h8 k hkc
    obtain ⟨ans, size_a, many_a, by__a, tu_a, fo_a, lp_a, lt_a, lu_a, six_a, all_a, w_a, b_a, c_a, ti_a, s_a, r_a, wo_a, im_a, be_a, br_a, mem_a, path_a, tn_b, mt_b, mu_b, kinds_b, q_b, ba_b, le_b, tb_b, ro_b, li_b, sz_b, tr_b, ln_b, mk_b, tc_b, md_b, kf_b, kt_b, kw_b, e1, e2, hF, hK⟩ := kin2 hf (show k < 12 by omega) hn h2 h5 fo lp lt lu six all w b c ti s r wo im be br tn mt mu kinds q ba le tb ro li sz tr ln mk tc md kf kt kw hfu
    rw [if_pos g, if_pos z00, if_pos g, if_neg n10, x6_unk h1 hy, x7_isForm h1 hy, bd1_s, bd1_s]
    by_cases gy : 0 ≤ y ∧ y < hc
    · obtain ⟨ej, hjc⟩ := kn gy h1 hj
      obtain ⟨⟨j1, j2, j3, M, V, m, j4, j5, j6, j7, j8⟩, hm⟩ := h8 j hjc
      rw [if_pos gy, if_pos z00, if_pos gy, if_neg n10, ek, e1, bd23_s, e2, bd20_s]
      rcases hK with ⟨K, k1, k2, k3, k4⟩ | hK
      · obtain ⟨s1, s2, s3, _⟩ := least_S (fit_pd j1) j4
        have qM : qs_ M := qs_S s1 (by rw [s3]; exact fit_D j1)
        obtain ⟨q3, ba3, le3, tb3, ro3, li3, sz3, tr3, e3, t1, _⟩ := l7_flo j1 j4 (by omega) hm q_b ba_b le_b tb_b ro_b li_b sz_b tr_b hfu
        have p1' := x0_pl k1 (fit_D hf.1) (fun i x hx => (k3.2.2.1 i x hx).1) j6 qM (F := fu) (by omega)
        have p2' := l7_pl k1 (fit_D hf.1) (fun i x hx => (k4.2.1 i x hx).1) t1 qM (F := fu) (by omega)
        have hl := k1.2.1
        obtain ⟨c1, c2, c3, c4⟩ := k3
        obtain ⟨r1, r2, r3⟩ := k4
        subst k2; subst r1; subst c1
        rw [if_pos (ix_nn (by omega)), if_pos (ix_nn (by omega)), if_pos (ix_ok (by omega) (by decide)), ej, if_pos (ix_ok (by omega) (by decide)), p1', bd1_s, e3, bd9_s, p2', bd1_s]
        exact ⟨_, ix K.1.length, many_a, by__a, tu_a, fo_a, lp_a, lt_a, lu_a, six_a, all_a, w_a, b_a, c_a, ti_a, s_a, r_a, wo_a, im_a, be_a, br_a, mem_a, path_a, _, mt_b, mu_b, _, q3, ba3, le3, tb3, ro3, li3, sz3, tr3, ln_b, mk_b, tc_b, md_b, kf_b, kt_b, kw_b, rfl, rfl, hI.put (fun _ => hF)⟩
      · rw [if_neg hK, if_neg hK]
        exact ⟨_, _, many_a, by__a, tu_a, fo_a, lp_a, lt_a, lu_a, six_a, all_a, w_a, b_a, c_a, ti_a, s_a, r_a, wo_a, im_a, be_a, br_a, mem_a, path_a, tn_b, mt_b, mu_b, _, q_b, ba_b, le_b, tb_b, ro_b, li_b, sz_b, tr_b, ln_b, mk_b, tc_b, md_b, kf_b, kt_b, kw_b, rfl, rfl, hI.put (fun _ => hF)⟩
    · rw [if_neg gy, if_neg n10, if_neg gy, if_pos z00]
      exact ⟨_, _, _, _, _, _, _, _, _, _, _, _, _, _, _, _, _, _, _, _, _, _, _, _, _, _, _, _, _, _, _, _, _, _, _, _, _, _, _, _, _, _, rfl, rfl, same⟩
  · rw [if_neg g, if_neg n10, if_neg g, if_pos z00]
    exact ⟨_, _, _, _, _, _, _, _, _, _, _, _, _, _, _, _, _, _, _, _, _, _, _, _, _, _, _, _, _, _, _, _, _, _, _, _, _, _, _, _, _, _, rfl, rfl, same⟩
