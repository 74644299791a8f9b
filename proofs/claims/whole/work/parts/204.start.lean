/-! THE LAW, from its entry -/
theorem kG_of {args : Array Value} {s : State} {t : FieldType} (h : (Cond.arrayOver (.array t)).before args s = true) : ∃ c : ClassId, ArrOfT s c (.array t) ∧ va_RA s c (.array t) := by
  obtain ⟨comp, c, k, h1, h2, h3, h4⟩ := Cond.arrayOver_specA h
  exact ⟨c, arrOf_kind h2 h3, h4⟩
theorem gl_X6_init : GoodIn lw_tbl vX6_init := gi_of t_X6_init q_X6_init
theorem gl_X7_init : GoodIn lw_tbl vX7_init := gi_of t_X7_init q_X7_init
theorem nwF_in : ∀ x ∈ nwF, (Cond.fieldLinkNest x.1 x.2.1 x.2.2.1 x.2.2.2.1 x.2.2.2.2.1 x.2.2.2.2.2) ∈ lw_tbl := by decide +kernel
theorem nwM_in : ∀ x ∈ nwM, (Cond.methodLinkNest x.1 x.2.1 x.2.2.1 x.2.2.2) ∈ lw_tbl := by decide +kernel
set_option maxHeartbeats 4000000 in
set_option maxRecDepth 100000 in
theorem whole_start {p : Program} {e : Env} {s : State} {m : MethodId} {below : List Frame} {meth : Method} {c : Code} (l : Launch) {b L : Nat} {xs : Nat → Int32} (hL : L ≤ 6144) (C0 : lw_At p s m meth c b L xs) : W p l e room_1 s m #[Value.ref b] below meth c s.heap [] 0 0 (lw_Z below #[Value.ref b] s) (entryFrame m ([Value.ref b] : List Value).toArray 4) := by
  obtain ⟨hx, hb, hr, hml, hown, hts, hX, hbl, hlocks, hgv⟩ := id C0
  have hA : ∀ q : Nat, s.heap.size ≤ q → (fun q : Nat => s.heap.size ≤ q) q := fun _ h => h
  have hA2 : ∀ q : Nat, (fun q : Nat => s.heap.size ≤ q) q → s.heap.size ≤ q := fun _ h => h
  have hbA : ¬ (fun q : Nat => s.heap.size ≤ q) b := Nat.not_le.mpr hbl
  obtain ⟨c0, iS0, hKn0⟩ := u_known (C := RX0) (T := TX0) (N := 6) (n := 6) hts t_wsX00 (hts (.instantiable RX0 6) (by decide +kernel))
  obtain ⟨c1, iS1, hKn1⟩ := u_known (C := RX1) (T := TX1) (N := 6) (n := 6) hts t_wsX10 (hts (.instantiable RX1 6) (by decide +kernel))
  obtain ⟨c2, iS2, hKn2⟩ := u_known (C := RX2) (T := TX2) (N := 9) (n := 9) hts t_wsX20 (hts (.instantiable RX2 9) (by decide +kernel))
  obtain ⟨c3, iS3, hKn3⟩ := u_known (C := RX3) (T := TX3) (N := 8) (n := 8) hts t_wsX30 (hts (.instantiable RX3 8) (by decide +kernel))
  obtain ⟨c4, iS4, hKn4⟩ := u_known (C := RX6) (T := TX6) (N := 8) (n := 8) hts t_wsX60 (hts (.instantiable RX6 8) (by decide +kernel))
  obtain ⟨c5, iS5, hKn5⟩ := u_known (C := RX7) (T := TX7) (N := 25) (n := 25) hts t_wsX70 (hts (.instantiable RX7 25) (by decide +kernel))
  obtain ⟨dC, dI, hKc⟩ : ∃ (dC : Nat → ClassId) (dI : Nat → Nat → Nat), ∀ (k : Nat) (q : vw_C), vwCl[k]? = some q → u_Kn s q.1 q.2.1 q.2.2 (dC k) (dI k) := by
    refine ⟨fun k => if k = 0 then c0 else if k = 1 then c1 else if k = 2 then c2 else if k = 3 then c3 else if k = 4 then c4 else c5, fun k => if k = 0 then iS0 else if k = 1 then iS1 else if k = 2 then iS2 else if k = 3 then iS3 else if k = 4 then iS4 else iS5, ?_⟩
    intro k q hq
    match k, hq with
    | 0, hq => cases hq; exact hKn0
    | 1, hq => cases hq; exact hKn1
    | 2, hq => cases hq; exact hKn2
    | 3, hq => cases hq; exact hKn3
    | 4, hq => cases hq; exact hKn4
    | 5, hq => cases hq; exact hKn5
    | k + 6, hq => simp [vwCl] at hq
  obtain ⟨cI, aI⟩ := kI_of (hts (.arrayClass .int) (by decide +kernel))
  obtain ⟨cJ, aJ⟩ := kJ_of (hts (.arrayClass .long) (by decide +kernel))
  obtain ⟨cF, aF⟩ := kF_of (hts (.arrayOver (.object "KinForms$Form")) (by decide +kernel))
  obtain ⟨cG, aG⟩ := kG_of (hts (.arrayOver (.array .int)) (by decide +kernel))
  have hS : va_S (fun q : Nat => s.heap.size ≤ q) s.heap s.heap [] := va_S.rf
  have hK : va_K (dC, dI) vwCl [(cI, .int), (cF, .object "KinForms$Form"), (cG, .array .int), (cJ, .long)] s := ⟨hKc, fun k q h => by
    match k, h with
    | 0, h => cases h; exact aI
    | 1, h => cases h; exact aF
    | 2, h => cases h; exact aG
    | 3, h => cases h; exact aJ
    | k + 4, h => simp at h⟩
  have hN : NW s := ⟨fun x hx => va_Nw.of rfl (hts _ (nwF_in x hx)), fun x hx => va_Nw.of rfl (hts _ (nwM_in x hx))⟩
  have hO : AO s := ⟨hts (.arrayOver (.array .int)) (by decide +kernel), hts (.arrayOver (.object "KinForms$Form")) (by decide +kernel)⟩
  have hP : va_P (dC, dI) vwCl [] s.heap := fun k q h => by simp at h
  have hD : va_D (fun q : Nat => s.heap.size ≤ q) [] := ⟨fun i j p q h => by simp at h, fun k q h => by simp at h⟩
  obtain ⟨box, ebox, hbox⟩ := x3_init (F := 100) (by decide)
  have hl := lv_entry ([.ref b]) (n := 4) (Nat.le_of_ble_eq_true rfl)
  rw [lg_entry_eq]
  generalize (lg_sl ([.ref b]) ++ List.replicate (4 - (lg_sl ([.ref b])).length) Slot.unset).toArray = ls at hl ⊢
  have hl : lv_has ls 4 [(0, .ref b)] := hl
  refine va_new (ci := 4) (fs := [.null, .null, .null, .null, .null, .null, .int 0, .int 0]) (C := RX6) (T := TX6) (N := 8) hx hb hts t_wsX60 tyX6 tyX6_ok hown (hts (.classLink R_law 7 RX6) (by decide +kernel)) (hts (.instantiable RX6 8) (by decide +kernel)) (hts (.initialized RX6) (by decide +kernel)) hK hP hD hS hA rfl (fun j hj => by rcases (show j = 0 ∨ j = 1 ∨ j = 2 ∨ j = 3 ∨ j = 4 ∨ j = 5 ∨ j = 6 ∨ j = 7 by omega) with rfl | rfl | rfl | rfl | rfl | rfl | rfl | rfl <;> rfl) (Nat.le_of_ble_eq_true rfl) (Nat.le_of_ble_eq_true rfl) dL_law_0 (fun h H hP hD hS => ?_)
  have hP : va_P (dC, dI) vwCl (([] ++ [(h, .inr (4, [.null, .null, .null, .null, .null, .null, .int 0, .int 0]))]) ++ []) H := hP
  have hD : va_D (fun q : Nat => s.heap.size ≤ q) (([] ++ [(h, .inr (4, [.null, .null, .null, .null, .null, .null, .int 0, .int 0]))]) ++ []) := hD
  refine lv_dup hx hb dL_law_3 rfl ?_
  have hx9 : ((([] : va_W) ++ [(h, .inr (4, [.null, .null, .null, .null, .null, .null, .int 0, .int 0]))]) ++ [])[0]? = some (h, .inr (4, [.null, .null, .null, .null, .null, .null, .int 0, .int 0])) := rfl
  have hPc : va_P (dC, dI) vwCl [(h, .inr (4, [.null, .null, .null, .null, .null, .null, .int 0, .int 0]))] H := vp1 (hP _ _ hx9)
  have hDc : va_D (fun q : Nat => s.heap.size ≤ q) [(h, .inr (4, [.null, .null, .null, .null, .null, .null, .int 0, .int 0]))] := vd1 (hD.2 _ _ hx9)
  have hFc : ∀ q, va_A [(h, .inr (4, [.null, .null, .null, .null, .null, .null, .int 0, .int 0]))] H.size q → (fun q : Nat => s.heap.size ≤ q) q := fr_core hD hS hA (fun j y hj => by match j, hj with | 0, hj => cases hj; exact ⟨_, hx9⟩ | j + 1, hj => simp at hj)
  refine va_callv (va_runI (As := []) (rest := [.ref h]) ⟨hx, hb, hml, hown, hts⟩ (c_X6_init l dC dI cI cF cG h H.size 100 box ebox) (cwI 0 hts gl_X6_init rfl rfl rfl (hts (.initialized RX6) (by decide +kernel)) (hts (.methodLink R_law 9 yX6_init) (by decide +kernel)) (hts (.instanceMethod yX6_init) (by decide +kernel)) rfl (by decide +kernel) ⟨Nat.le_of_ble_eq_true rfl, Nat.le_of_ble_eq_true rfl⟩) ⟨mPa_blind, mPa_at (hK.sub (tys' := [(cI, .int), (cF, .object "KinForms$Form"), (cG, .array .int)]) [0, 1, 2] rfl) hPc hDc hN hO⟩ rfl rfl hl.1 rfl (lv_room (Nat.le_of_ble_eq_true rfl)) dL_law_4 ⟨Nat.le_of_ble_eq_true rfl, Nat.le_of_ble_eq_true rfl⟩) hS (fun q _ h => hFc q h) hFc (fun u t H1 locs ht hvm hw hB hz1 hk1 hS => ?_)
  obtain ⟨hP1, hK1, hD1⟩ := hB
  rw [ht] at hP1
  obtain ⟨hP, hD⟩ := jn_new hP hD hk1 hFc hP1 hD1
  generalize H1 = H at hP hS ⊢
  obtain ⟨a, ra, la, fo, ga, ya, mb, pb⟩ := u
  dsimp only at hP hD
  rw [List.append_nil, List.nil_append] at hP hD
  have hP : va_P (dC, dI) vwCl (bW cI cF h a ra la fo (0, 3, 0, fun _ => 0, fun _ => 0, box, fun _ => 0, fun _ => 0, fun _ => 0, fun _ => 0, 0, 3, 0, 0, fun _ => 0, fun _ => 0, fun _ => 0, fun _ => 0, fun _ => 0, fun _ => 0, fun _ => 0, fun _ => 0) ++ gAll cI cG fo ga ya mb pb (0, 0, fun _ => 0, fun _ => 0, fun _ => 0, 0, 0, 0, fun _ => 0, fun _ _ => 0, fun _ _ => 0)) H := hP
  have hD : va_D (fun q : Nat => s.heap.size ≤ q) (bW cI cF h a ra la fo (0, 3, 0, fun _ => 0, fun _ => 0, box, fun _ => 0, fun _ => 0, fun _ => 0, fun _ => 0, 0, 3, 0, 0, fun _ => 0, fun _ => 0, fun _ => 0, fun _ => 0, fun _ => 0, fun _ => 0, fun _ => 0, fun _ => 0) ++ gAll cI cG fo ga ya mb pb (0, 0, fun _ => 0, fun _ => 0, fun _ => 0, 0, 0, 0, fun _ => 0, fun _ _ => 0, fun _ _ => 0)) := hD
  obtain ⟨B, eB⟩ : ∃ B : va_W, B = bW cI cF h a ra la fo (0, 3, 0, fun _ => 0, fun _ => 0, box, fun _ => 0, fun _ => 0, fun _ => 0, fun _ => 0, 0, 3, 0, 0, fun _ => 0, fun _ => 0, fun _ => 0, fun _ => 0, fun _ => 0, fun _ => 0, fun _ => 0, fun _ => 0) ++ gAll cI cG fo ga ya mb pb (0, 0, fun _ => 0, fun _ => 0, fun _ => 0, 0, 0, 0, fun _ => 0, fun _ _ => 0, fun _ _ => 0) := ⟨_, rfl⟩
  rw [← eB] at hP hD
  refine lv_astore_n (lv' := [(1, .ref h), (0, .ref b)]) hx hb dL_law_7 rfl hl (by decide) rfl (fun ls hl => ?_)
  refine va_new (ci := 5) (fs := [.int 0, .null, .int 0, .null, .null, .null, .int 0, .null, .null, .null, .null, .null, .null, .null, .int 0, .int 0, .null, .null, .null, .int 0, .null, .null, .null, .long 0, .long 0]) (C := RX7) (T := TX7) (N := 25) hx hb hts t_wsX70 tyX7 tyX7_ok hown (hts (.classLink R_law 10 RX7) (by decide +kernel)) (hts (.instantiable RX7 25) (by decide +kernel)) (hts (.initialized RX7) (by decide +kernel)) hK hP hD hS hA rfl (fun j hj => by rcases (show j = 0 ∨ j = 1 ∨ j = 2 ∨ j = 3 ∨ j = 4 ∨ j = 5 ∨ j = 6 ∨ j = 7 ∨ j = 8 ∨ j = 9 ∨ j = 10 ∨ j = 11 ∨ j = 12 ∨ j = 13 ∨ j = 14 ∨ j = 15 ∨ j = 16 ∨ j = 17 ∨ j = 18 ∨ j = 19 ∨ j = 20 ∨ j = 21 ∨ j = 22 ∨ j = 23 ∨ j = 24 by omega) with rfl | rfl | rfl | rfl | rfl | rfl | rfl | rfl | rfl | rfl | rfl | rfl | rfl | rfl | rfl | rfl | rfl | rfl | rfl | rfl | rfl | rfl | rfl | rfl | rfl <;> rfl) (Nat.le_of_ble_eq_true rfl) (Nat.le_of_ble_eq_true rfl) dL_law_8 (fun hm H hP hD hS => ?_)
  have hP : va_P (dC, dI) vwCl ((B ++ [(hm, .inr (5, [.int 0, .null, .int 0, .null, .null, .null, .int 0, .null, .null, .null, .null, .null, .null, .null, .int 0, .int 0, .null, .null, .null, .int 0, .null, .null, .null, .long 0, .long 0]))]) ++ []) H := by rw [List.append_nil]; exact hP
  have hD : va_D (fun q : Nat => s.heap.size ≤ q) ((B ++ [(hm, .inr (5, [.int 0, .null, .int 0, .null, .null, .null, .int 0, .null, .null, .null, .null, .null, .null, .null, .int 0, .int 0, .null, .null, .null, .int 0, .null, .null, .null, .long 0, .long 0]))]) ++ []) := by rw [List.append_nil]; exact hD
  refine lv_dup hx hb dL_law_11 rfl ?_
  have hx9 : ((B ++ [(hm, .inr (5, [.int 0, .null, .int 0, .null, .null, .null, .int 0, .null, .null, .null, .null, .null, .null, .null, .int 0, .int 0, .null, .null, .null, .int 0, .null, .null, .null, .long 0, .long 0]))]) ++ [])[B.length]? = some (hm, .inr (5, [.int 0, .null, .int 0, .null, .null, .null, .int 0, .null, .null, .null, .null, .null, .null, .null, .int 0, .int 0, .null, .null, .null, .int 0, .null, .null, .null, .long 0, .long 0])) := by rw [List.append_nil, List.getElem?_append_right (Nat.le_refl _), Nat.sub_self]; rfl
  have hPc : va_P (dC, dI) vwCl [(hm, .inr (5, [.int 0, .null, .int 0, .null, .null, .null, .int 0, .null, .null, .null, .null, .null, .null, .null, .int 0, .int 0, .null, .null, .null, .int 0, .null, .null, .null, .long 0, .long 0]))] H := vp1 (hP _ _ hx9)
  have hDc : va_D (fun q : Nat => s.heap.size ≤ q) [(hm, .inr (5, [.int 0, .null, .int 0, .null, .null, .null, .int 0, .null, .null, .null, .null, .null, .null, .null, .int 0, .int 0, .null, .null, .null, .int 0, .null, .null, .null, .long 0, .long 0]))] := vd1 (hD.2 _ _ hx9)
  have hFc : ∀ q, va_A [(hm, .inr (5, [.int 0, .null, .int 0, .null, .null, .null, .int 0, .null, .null, .null, .null, .null, .null, .null, .int 0, .int 0, .null, .null, .null, .int 0, .null, .null, .null, .long 0, .long 0]))] H.size q → (fun q : Nat => s.heap.size ≤ q) q := fr_core hD hS hA (fun j y hj => by match j, hj with | 0, hj => cases hj; exact ⟨_, hx9⟩ | j + 1, hj => simp at hj)
  refine va_callv (va_runI (As := []) (rest := [.ref hm]) ⟨hx, hb, hml, hown, hts⟩ (c_X7_init l dC dI cI cJ hm H.size) (cwI 0 hts gl_X7_init rfl rfl rfl (hts (.initialized RX7) (by decide +kernel)) (hts (.methodLink R_law 12 yX7_init) (by decide +kernel)) (hts (.instanceMethod yX7_init) (by decide +kernel)) rfl (by decide +kernel) ⟨Nat.le_of_ble_eq_true rfl, Nat.le_of_ble_eq_true rfl⟩) ⟨mPk_blind, mPk_at (hK.sub (tys' := [(cI, .int), (cJ, .long)]) [0, 3] rfl) hPc hDc hN⟩ rfl rfl hl.1 rfl (lv_room (Nat.le_of_ble_eq_true rfl)) dL_law_12 ⟨Nat.le_of_ble_eq_true rfl, Nat.le_of_ble_eq_true rfl⟩) hS (fun q _ h => hFc q h) hFc (fun am t H1 locs ht hvm hw hB hz1 hk1 hS => ?_)
  obtain ⟨hP1, hK1, hD1⟩ := hB
  rw [ht] at hP1
  obtain ⟨hP, hD⟩ := jn_new hP hD hk1 hFc hP1 hD1
  generalize H1 = H at hP hS ⊢
  rw [List.append_nil, eB] at hP hD
  have hP : va_P (dC, dI) vwCl ((bW cI cF h a ra la fo (0, 3, 0, fun _ => 0, fun _ => 0, box, fun _ => 0, fun _ => 0, fun _ => 0, fun _ => 0, 0, 3, 0, 0, fun _ => 0, fun _ => 0, fun _ => 0, fun _ => 0, fun _ => 0, fun _ => 0, fun _ => 0, fun _ => 0) ++ gAll cI cG fo ga ya mb pb (0, 0, fun _ => 0, fun _ => 0, fun _ => 0, 0, 0, 0, fun _ => 0, fun _ _ => 0, fun _ _ => 0)) ++ nW cI cJ hm am (0, 3, 0, 0, 0, 0, 0, 0, fun _ => 0, fun _ => 0, fun _ => 0, fun _ => 0, fun _ => 0, fun _ => 0, fun _ => 0, fun _ => 0, fun _ => 0, fun _ => 0, fun _ => 0, fun _ => 0, fun _ => 0, fun _ => 0, fun _ => 0, fun _ => 0, fun _ => 0)) H := hP
  have hD : va_D (fun q : Nat => s.heap.size ≤ q) ((bW cI cF h a ra la fo (0, 3, 0, fun _ => 0, fun _ => 0, box, fun _ => 0, fun _ => 0, fun _ => 0, fun _ => 0, 0, 3, 0, 0, fun _ => 0, fun _ => 0, fun _ => 0, fun _ => 0, fun _ => 0, fun _ => 0, fun _ => 0, fun _ => 0) ++ gAll cI cG fo ga ya mb pb (0, 0, fun _ => 0, fun _ => 0, fun _ => 0, 0, 0, 0, fun _ => 0, fun _ _ => 0, fun _ _ => 0)) ++ nW cI cJ hm am (0, 3, 0, 0, 0, 0, 0, 0, fun _ => 0, fun _ => 0, fun _ => 0, fun _ => 0, fun _ => 0, fun _ => 0, fun _ => 0, fun _ => 0, fun _ => 0, fun _ => 0, fun _ => 0, fun _ => 0, fun _ => 0, fun _ => 0, fun _ => 0, fun _ => 0, fun _ => 0)) := hD
  refine lv_astore_n (lv' := [(2, .ref hm), (1, .ref h), (0, .ref b)]) hx hb dL_law_15 rfl hl (by decide) rfl (fun ls hl => ?_)
  refine lv_iconst (v := 0) hx hb dL_law_16 (by decide) ?_
  refine lv_istore_n (lv' := [(3, .int 0), (2, .ref hm), (1, .ref h), (0, .ref b)]) hx hb dL_law_17 rfl hl (by decide) rfl (fun ls hl => ?_)
  refine law_loop hL C0 hA hA2 hbA hK hN (AD_of hD) ⟨Nat.le_of_ble_eq_true rfl, Nat.le_of_ble_eq_true rfl⟩ (L + 1) 0 (by omega) (by omega) _ _ _ H locs (CW_of hP) ?_ hS ls (lv_sub hl [3, 2, 1, 0] rfl)
  exact ⟨0, 3, fun _ => (0, 0, 0, 0, 0, 0), Nat.zero_le _, Or.inl rfl, rfl, rfl, hbox, rfl, rfl, fun j hj => absurd hj (Nat.not_lt_zero j)⟩
