/-! the class's Reducer: all tables of the box -/
def tb (i j k : Nat) : T9 := (bv i, bv j, bv k)
def cK (q : F6) (γ : Int) (i j : Nat) (ks : List Nat) : List T9 := (ks.filter (fun k => decide (qf_val q (bv k) = γ) && decide (qf_det (tb i j k) = 1 ∨ qf_det (tb i j k) = -1))).map (fun k => tb i j k)
def cJ (q : F6) (β γ : Int) (i : Nat) (js : List Nat) : List T9 := js.flatMap (fun j => if qf_val q (bv j) = β then cK q γ i j (List.range' 0 27) else [])
def cI_ (q : F6) (α β γ : Int) (is : List Nat) : List T9 := is.flatMap (fun i => if qf_val q (bv i) = α then cJ q β γ i (List.range' 0 27) else [])
theorem cK_len (q : F6) (γ : Int) (i j : Nat) (ks : List Nat) : (cK q γ i j ks).length ≤ ks.length := by
  unfold cK
  rw [List.length_map]
  exact List.length_filter_le _ _
theorem cJ_len (q : F6) (β γ : Int) (i : Nat) : ∀ js : List Nat, (cJ q β γ i js).length ≤ 27 * js.length
  | [] => by simp [cJ]
  | j :: js => by
    have h1 := cJ_len q β γ i js
    have h2 := cK_len q γ i j (List.range' 0 27)
    unfold cJ at h1 ⊢
    rw [List.flatMap_cons, List.length_append, List.length_cons]
    rw [List.length_range'] at h2
    split
    · omega
    · simp only [List.length_nil]; omega
theorem bv_det (i j k : Nat) (hi : i < 27) (hj : j < 27) (hk : k < 27) : rI (qf_det (tb i j k)) := by
  have h : ∀ u v w : V3, qr_bx u → qr_bx v → qr_bx w → rI (qf_det (u, v, w)) := by
    rintro ⟨a, b, c⟩ ⟨d, e, f⟩ ⟨g, h, i⟩ hu hv hw
    simp only [qr_bx] at hu hv hw
    have key : ∀ x y : Int, (-1 ≤ x ∧ x ≤ 1) → (-1 ≤ y ∧ y ≤ 1) → (-1 ≤ x * y ∧ x * y ≤ 1) := by
      intro x y hx hy
      have : x = -1 ∨ x = 0 ∨ x = 1 := by omega
      rcases this with e | e | e <;> subst e <;> omega
    have key2 : ∀ x y : Int, (-1 ≤ x ∧ x ≤ 1) → (-2 ≤ y ∧ y ≤ 2) → (-2 ≤ x * y ∧ x * y ≤ 2) := by
      intro x y hx hy
      have : x = -1 ∨ x = 0 ∨ x = 1 := by omega
      rcases this with e | e | e <;> subst e <;> omega
    simp only [qf_det]
    have k1 := key e i hv.2.1 hw.2.2
    have k2 := key f h hv.2.2 hw.2.1
    have k3 := key d i hv.1 hw.2.2
    have k4 := key f g hv.2.2 hw.1
    have k5 := key d h hv.1 hw.2.1
    have k6 := key e g hv.2.1 hw.1
    have k7 := key2 a (e * i - f * h) hu.1 (by omega)
    have k8 := key2 b (d * i - f * g) hu.2.1 (by omega)
    have k9 := key2 c (d * h - e * g) hu.2.2 (by omega)
    constructor <;> omega
  exact h _ _ _ (bv_box i hi) (bv_box j hj) (bv_box k hk)
/-- what is known of the arrays through the search -/
def sr_C (q : F6) (M : T9) (s box worth img : Nat → Int32) : Prop := a6 s (qf_trn q M) ∧ bxA box ∧ (∀ i, i < 27 → worth i = Int32.ofInt (qf_val (qf_trn q M) (bv i))) ∧ (∀ i, i < 27 → av img (3 * i) (qf_lin M (bv i))) ∧ (∀ i, i < 27 → rI (qf_val (qf_trn q M) (bv i))) ∧ (∀ i j k, i < 27 → j < 27 → k < 27 → (∀ t ∈ lk q (qf_mul (tb i j k) M), rI t) ∧ ∀ t ∈ l9 (qf_mul (tb i j k) M), rI t)
theorem x3_L138 {q : F6} {M : T9} {α β γ : Int} {s box worth img : Nat → Int32} (hC : sr_C q M s box worth img) (hβ : rI β) (hγ : rI γ) {i j : Nat} (hi : i < 27) (hj : j < 27) (hjv : qf_val (qf_trn q M) (bv j) = β) (k212 : Int32 → (Nat → Int32) → (Nat → Int32) → Option (Int32 × (Nat → Int32) × (Nat → Int32))) {F : Nat} (hF : 28 ≤ F) : ∀ (n k : Nat) (cs : List T9) (ties : Int32) (best rows : Nat → Int32), 28 ≤ k + n → k ≤ 27 → cs_R q α β γ cs ties best rows → cs.length + (27 - k) ≤ 100000 → ∃ t b r, fX3_search_L138 (ix j) worth k212 box (ix i) F s img n (ix k) ties best rows = k212 t b r ∧ cs_R q α β γ (cs ++ (cK (qf_trn q M) γ i j (List.range' k (27 - k))).map (fun X => qf_mul X M)) t b r := by
  obtain ⟨hs, hbx, hw, him, hrv, hrk⟩ := hC
  obtain ⟨fu, rfl⟩ : ∃ f, F = f + 10 := ⟨F - 10, by omega⟩
  intro n
  induction n with
  | zero => intro k cs ties best rows h1 h2; omega
  | succ n ih =>
    intro k cs ties best rows h1 h2 hst hlen
    obtain ⟨b0, b1, b2⟩ := hst.1
    have hwj : worth (ix j).toNatClampNeg = best 1 := by rw [ix_nat (by omega), hw j hj, b1, hjv]
    rw [fX3_search_L138, if_pos (ix_ok (by omega) (by decide)), if_pos hwj]
    by_cases hk : k < 27
    · rw [if_neg (by rw [ix_27, ix_le (by omega) (by omega)]; omega), if_pos (ix_ok (by omega) (by decide))]
      simp only [nm_eq]
      have er : List.range' k (27 - k) = k :: List.range' (k + 1) (27 - (k + 1)) := by
        have : 27 - k = (27 - (k + 1)) + 1 := by omega
        rw [this, List.range'_succ]
      have hcond : worth (ix k).toNatClampNeg = best 2 ↔ qf_val (qf_trn q M) (bv k) = γ := by
        rw [ix_nat (by omega), hw k hk, b2, zi_eq (hrv k hk) hγ]
      rw [er, ix_3, ix_mul, ix_mul, ix_mul, ix_1, ix_add]
      have skip : ¬ (qf_val (qf_trn q M) (bv k) = γ ∧ (qf_det (tb i j k) = 1 ∨ qf_det (tb i j k) = -1)) → cK (qf_trn q M) γ i j (k :: List.range' (k + 1) (27 - (k + 1))) = cK (qf_trn q M) γ i j (List.range' (k + 1) (27 - (k + 1))) := by
        intro h
        unfold cK
        rw [List.filter_cons_of_neg (by simpa using h)]
      by_cases hv : qf_val (qf_trn q M) (bv k) = γ
      · rw [if_pos (hcond.mpr hv), x6_areTable (hbx i hi) (hbx j hj) (hbx k hk) (by omega) (by omega) (by omega) (by decide) (bv_det i j k hi hj hk)]
        simp only [bd1]
        by_cases hd : qf_det (tb i j k) = 1 ∨ qf_det (tb i j k) = -1
        · have e3 : (if qf_det (bv i, bv j, bv k) = 1 ∨ qf_det (bv i, bv j, bv k) = -1 then (1 : Int32) else 0) = 1 := if_pos hd
          rw [e3, if_neg (by decide)]
          obtain ⟨t, b, r, g1, g2⟩ := x3_consider hs (hbx i hi) (hbx j hj) (hbx k hk) (him i hi) (him j hj) (him k hk) (by omega) (by omega) (by omega) hst (by omega) (hrk i j k hi hj hk).1 (hrk i j k hi hj hk).2 fu
          rw [g1]
          simp only [bd3]
          obtain ⟨t', b', r', g3, g4⟩ := ih (k + 1) _ t b r (by omega) (by omega) g2 (by rw [List.length_append]; simp only [List.length_cons, List.length_nil]; omega)
          refine ⟨t', b', r', g3, ?_⟩
          have e4 : cK (qf_trn q M) γ i j (k :: List.range' (k + 1) (27 - (k + 1))) = tb i j k :: cK (qf_trn q M) γ i j (List.range' (k + 1) (27 - (k + 1))) := by
            unfold cK
            rw [List.filter_cons_of_pos (by simpa using ⟨hv, hd⟩)]
            rfl
          rw [e4, List.map_cons]
          rw [List.append_assoc] at g4
          exact g4
        · have e3 : (if qf_det (bv i, bv j, bv k) = 1 ∨ qf_det (bv i, bv j, bv k) = -1 then (1 : Int32) else 0) = 0 := if_neg hd
          rw [e3, if_pos rfl, skip (fun h => hd h.2)]
          exact ih (k + 1) _ _ _ _ (by omega) (by omega) hst (by omega)
      · rw [if_neg (fun h => hv (hcond.mp h)), skip (fun h => hv h.1)]
        exact ih (k + 1) _ _ _ _ (by omega) (by omega) hst (by omega)
    · have e : k = 27 := by omega
      subst e
      rw [if_pos (by rw [ix_27, ix_le (by omega) (by omega)]; omega)]
      exact ⟨_, _, _, rfl, by simpa [cK] using hst⟩
theorem x3_L115 {q : F6} {M : T9} {α β γ : Int} {s box worth img : Nat → Int32} (hC : sr_C q M s box worth img) (hβ : rI β) (hγ : rI γ) {i : Nat} (hi : i < 27) (hiv : qf_val (qf_trn q M) (bv i) = α) (k218 : Int32 → (Nat → Int32) → (Nat → Int32) → Option (Int32 × (Nat → Int32) × (Nat → Int32))) {F : Nat} (hF : 28 ≤ F) : ∀ (n j : Nat) (cs : List T9) (ties : Int32) (best rows : Nat → Int32), 28 ≤ j + n → j ≤ 27 → cs_R q α β γ cs ties best rows → cs.length + 27 * (27 - j) ≤ 100000 → ∃ t b r, fX3_search_L115 (ix i) worth k218 box F s img n (ix j) ties best rows = k218 t b r ∧ cs_R q α β γ (cs ++ (cJ (qf_trn q M) β γ i (List.range' j (27 - j))).map (fun X => qf_mul X M)) t b r := by
  intro n
  induction n with
  | zero => intro k cs ties best rows h1 h2; omega
  | succ n ih =>
    intro j cs ties best rows h1 h2 hst hlen
    obtain ⟨b0, b1, b2⟩ := hst.1
    have hC' := hC
    obtain ⟨hs, hbx, hw, him, hrv, hrk⟩ := hC'
    have hwi : worth (ix i).toNatClampNeg = best 0 := by rw [ix_nat (by omega), hw i hi, b0, hiv]
    rw [fX3_search_L115, if_pos (ix_ok (by omega) (by decide)), if_pos hwi]
    by_cases hj : j < 27
    · rw [if_neg (by rw [ix_27, ix_le (by omega) (by omega)]; omega)]
      simp only [nm_eq]
      have er : List.range' j (27 - j) = j :: List.range' (j + 1) (27 - (j + 1)) := by
        have : 27 - j = (27 - (j + 1)) + 1 := by omega
        rw [this, List.range'_succ]
      rw [er, ix_1, ix_0]
      simp only [ix_add]
      by_cases hv : qf_val (qf_trn q M) (bv j) = β
      · obtain ⟨t, b, r, g1, g2⟩ := x3_L138 hC hβ hγ hi hj hv (fun t b r => fX3_search_L115 (ix i) worth k218 box F s img n (ix (j + 1)) t b r) hF F 0 cs ties best rows (by omega) (by omega) hst (by omega)
        have hlk := cK_len (qf_trn q M) γ i j (List.range' 0 27)
        rw [List.length_range'] at hlk
        rw [Nat.sub_zero] at g2
        obtain ⟨t', b', r', g3, g4⟩ := ih (j + 1) _ t b r (by omega) (by omega) g2 (by rw [List.length_append, List.length_map]; omega)
        refine ⟨t', b', r', g1.trans g3, ?_⟩
        have e4 : cJ (qf_trn q M) β γ i (j :: List.range' (j + 1) (27 - (j + 1))) = cK (qf_trn q M) γ i j (List.range' 0 27) ++ cJ (qf_trn q M) β γ i (List.range' (j + 1) (27 - (j + 1))) := by
          unfold cJ
          rw [List.flatMap_cons, if_pos hv]
        rw [e4, List.map_append, ← List.append_assoc]
        exact g4
      · have hwj : ¬ worth (ix j).toNatClampNeg = best 1 := by rw [ix_nat (by omega), hw j hj, b1, zi_eq (hrv j hj) hβ]; exact hv
        have e4 : cJ (qf_trn q M) β γ i (j :: List.range' (j + 1) (27 - (j + 1))) = cJ (qf_trn q M) β γ i (List.range' (j + 1) (27 - (j + 1))) := by
          unfold cJ
          rw [List.flatMap_cons, if_neg hv, List.nil_append]
        obtain ⟨m, rfl⟩ : ∃ m, F = m + 1 := ⟨F - 1, by omega⟩
        rw [fX3_search_L138, if_pos (ix_ok (by omega) (by decide)), if_neg hwj, e4]
        exact ih (j + 1) _ _ _ _ (by omega) (by omega) hst (by omega)
    · have e : j = 27 := by omega
      subst e
      rw [if_pos (by rw [ix_27, ix_le (by omega) (by omega)]; omega)]
      exact ⟨_, _, _, rfl, by simpa [cJ] using hst⟩
theorem x3_L107 {q : F6} {M : T9} {α β γ : Int} {s box worth img : Nat → Int32} (hC : sr_C q M s box worth img) (hα : rI α) (hβ : rI β) (hγ : rI γ) {F : Nat} (hF : 28 ≤ F) : ∀ (n i : Nat) (cs : List T9) (ties : Int32) (best rows : Nat → Int32), 28 ≤ i + n → i ≤ 27 → cs_R q α β γ cs ties best rows → cs.length + 729 * (27 - i) ≤ 100000 → ∃ t b r, fX3_search_L107 worth box F s img n (ix i) ties best rows = some (t, b, r) ∧ cs_R q α β γ (cs ++ (cI_ (qf_trn q M) α β γ (List.range' i (27 - i))).map (fun X => qf_mul X M)) t b r := by
  intro n
  induction n with
  | zero => intro k cs ties best rows h1 h2; omega
  | succ n ih =>
    intro i cs ties best rows h1 h2 hst hlen
    obtain ⟨b0, b1, b2⟩ := hst.1
    have hC' := hC
    obtain ⟨hs, hbx, hw, him, hrv, hrk⟩ := hC'
    rw [fX3_search_L107]
    by_cases hi : i < 27
    · rw [if_neg (by rw [ix_27, ix_le (by omega) (by omega)]; omega)]
      simp only [nm_eq]
      have er : List.range' i (27 - i) = i :: List.range' (i + 1) (27 - (i + 1)) := by
        have : 27 - i = (27 - (i + 1)) + 1 := by omega
        rw [this, List.range'_succ]
      rw [er, ix_1, ix_0]
      simp only [ix_add]
      by_cases hv : qf_val (qf_trn q M) (bv i) = α
      · obtain ⟨t, b, r, g1, g2⟩ := x3_L115 hC hβ hγ hi hv (fun t b r => fX3_search_L107 worth box F s img n (ix (i + 1)) t b r) hF F 0 cs ties best rows (by omega) (by omega) hst (by omega)
        have hlk := cJ_len (qf_trn q M) β γ i (List.range' 0 27)
        rw [List.length_range'] at hlk
        rw [Nat.sub_zero] at g2
        obtain ⟨t', b', r', g3, g4⟩ := ih (i + 1) _ t b r (by omega) (by omega) g2 (by rw [List.length_append, List.length_map]; omega)
        refine ⟨t', b', r', g1.trans g3, ?_⟩
        have e4 : cI_ (qf_trn q M) α β γ (i :: List.range' (i + 1) (27 - (i + 1))) = cJ (qf_trn q M) β γ i (List.range' 0 27) ++ cI_ (qf_trn q M) α β γ (List.range' (i + 1) (27 - (i + 1))) := by
          unfold cI_
          rw [List.flatMap_cons, if_pos hv]
        rw [e4, List.map_append, ← List.append_assoc]
        exact g4
      · have hwi : ¬ worth (ix i).toNatClampNeg = best 0 := by rw [ix_nat (by omega), hw i hi, b0, zi_eq (hrv i hi) hα]; exact hv
        have e4 : cI_ (qf_trn q M) α β γ (i :: List.range' (i + 1) (27 - (i + 1))) = cI_ (qf_trn q M) α β γ (List.range' (i + 1) (27 - (i + 1))) := by
          unfold cI_
          rw [List.flatMap_cons, if_neg hv, List.nil_append]
        obtain ⟨m, rfl⟩ : ∃ m, F = m + 1 := ⟨F - 1, by omega⟩
        rw [fX3_search_L115, if_pos (ix_ok (by omega) (by decide)), if_neg hwi, e4]
        exact ih (i + 1) _ _ _ _ (by omega) (by omega) hst (by omega)
    · have e : i = 27 := by omega
      subst e
      rw [if_pos (by rw [ix_27, ix_le (by omega) (by omega)]; omega)]
      exact ⟨_, _, _, rfl, by simpa [cI_] using hst⟩
theorem cI_mem {q : F6} {α β γ : Int} {M : T9} : M ∈ cI_ q α β γ (List.range' 0 27) ↔ (qr_bx M.1 ∧ qr_bx M.2.1 ∧ qr_bx M.2.2) ∧ qf_gl M ∧ qf_val q M.1 = α ∧ qf_val q M.2.1 = β ∧ qf_val q M.2.2 = γ := by
  unfold cI_ cJ cK
  simp only [List.mem_flatMap, List.mem_range'_1]
  constructor
  · rintro ⟨i, hi, h⟩
    split at h
    · rename_i h1
      simp only [List.mem_flatMap, List.mem_range'_1] at h
      obtain ⟨j, hj, h⟩ := h
      split at h
      · rename_i h2
        simp only [List.mem_map, List.mem_filter, List.mem_range'_1, Bool.and_eq_true, decide_eq_true_eq] at h
        obtain ⟨k, ⟨hk, h3, h4⟩, e⟩ := h
        subst e
        exact ⟨⟨bv_box i (by omega), bv_box j (by omega), bv_box k (by omega)⟩, h4, h1, h2, h3⟩
      · cases h
    · cases h
  · rintro ⟨⟨h1, h2, h3⟩, h4, h5, h6, h7⟩
    obtain ⟨i, hi, e1⟩ := bv_ex h1
    obtain ⟨j, hj, e2⟩ := bv_ex h2
    obtain ⟨k, hk, e3⟩ := bv_ex h3
    have eM : M = tb i j k := by unfold tb; rw [e1, e2, e3]
    refine ⟨i, ⟨by omega, by omega⟩, ?_⟩
    rw [if_pos (by rw [e1]; exact h5)]
    simp only [List.mem_flatMap, List.mem_range'_1]
    refine ⟨j, ⟨by omega, by omega⟩, ?_⟩
    rw [if_pos (by rw [e2]; exact h6)]
    simp only [List.mem_map, List.mem_filter, List.mem_range'_1, Bool.and_eq_true, decide_eq_true_eq]
    refine ⟨k, ⟨⟨by omega, by omega⟩, by rw [e3]; exact h7, ?_⟩, eM.symm⟩
    rw [← eM]
    exact h4
theorem cI_nd (q : F6) (α β γ : Int) : (cI_ q α β γ (List.range' 0 27)).Nodup := by
  have nr : (List.range' 0 27).Nodup := by decide
  have hK : ∀ i j, (cK q γ i j (List.range' 0 27)).Nodup := by
    intro i j
    unfold cK
    refine nd_map (fun x y e => ?_) (List.Pairwise.filter _ nr)
    simp only [tb, Prod.mk.injEq] at e
    exact bv_inj e.2.2
  have hJ : ∀ i, (cJ q β γ i (List.range' 0 27)).Nodup := by
    intro i
    unfold cJ
    refine List.pairwise_flatMap.mpr ⟨fun j _ => ?_, List.Pairwise.imp (fun {a b} hab x hx y hy e => ?_) nr⟩
    · split
      · exact hK i j
      · exact List.Pairwise.nil
    · split at hx
      · split at hy
        · unfold cK at hx hy
          obtain ⟨x', _, ex⟩ := List.mem_map.mp hx
          obtain ⟨y', _, ey⟩ := List.mem_map.mp hy
          rw [← ex, ← ey] at e
          simp only [tb, Prod.mk.injEq] at e
          exact hab (bv_inj e.2.1)
        · cases hy
      · cases hx
  unfold cI_
  refine List.pairwise_flatMap.mpr ⟨fun j _ => ?_, List.Pairwise.imp (fun {a b} hab x hx y hy e => ?_) nr⟩
  · split
    · exact hJ j
    · exact List.Pairwise.nil
  · have h1 : ∀ a x, x ∈ cJ q β γ a (List.range' 0 27) → x.1 = bv a := by
      intro a x hx
      unfold cJ at hx
      obtain ⟨j, _, hx⟩ := List.mem_flatMap.mp hx
      split at hx
      · unfold cK at hx
        obtain ⟨x', _, ex⟩ := List.mem_map.mp hx
        rw [← ex]
        rfl
      · cases hx
    split at hx
    · split at hy
      · have e1 := h1 _ _ hx
        have e2 := h1 _ _ hy
        rw [e, e2] at e1
        exact hab (bv_inj e1.symm)
      · cases hy
    · cases hx
