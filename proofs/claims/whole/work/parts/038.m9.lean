def fX7_add (fu : Nat) (upper : Int64) (lower : Int64) (p0 : Int64) (p1 : Int64) : Option ((Int64) × (Int64)) :=
  nm ((upper * p1) + (p0 * lower)) (fun (upper_1 : Int64) => nm (lower * p1) (fun (lower_2 : Int64) => bd1 (fX7_common fu upper_1 lower_2) (fun (r_3 : Int64) => if ¬ r_3 = 0 then nm (upper_1 / r_3) (fun (upper_4 : Int64) => if ¬ r_3 = 0 then nm (lower_2 / r_3) (fun (lower_5 : Int64) => some (upper_4, lower_5)) else none) else none)))
def lkX7_add : List Cond := [.fieldLink RX7 240 "KinFormsModel" "upper" "J", .fieldLink RX7 244 "KinFormsModel" "lower" "J"]
def vX7_add : List Cond := .code yX7_add cX7_add 7 none :: (lkX7_add ++ (wsX70 ++ (va_wsS RX7 247 yX7_common vX7_common ++ ([]))))
theorem q_X7_add : ∀ w ∈ vX7_add, goodWord w = true := gd_cons rfl (gd_app (by decide +kernel) (gd_app q_wsX70 (gd_app (gd_S q_X7_common) gd_nil)))
theorem g_X7_add_X7_common : GoodIn vX7_add (va_wsS RX7 247 yX7_common vX7_common) := gi_of (fun w h => List.mem_cons_of_mem _ (List.mem_append_right _ (List.mem_append_right _ (List.mem_append_left _ h)))) (gd_S q_X7_common)
abbrev rmX7_add : Room := { frames := 1, cells := 0, slots := 0, locals := 29 }
set_option maxHeartbeats 4000000 in
set_option maxRecDepth 100000 in
theorem c_X7_add (l : Launch) (dC : Nat → ClassId) (dI : Nat → Nat → Nat) (cI : ClassId) (cJ : ClassId) (h : Nat) (a : Nat → Nat) (fu : Nat) (sz : Nat) (forms : Int32) (prime : Int32) (turns : Int32) (lineT : Int32) (lineU : Int32) (kinds : Int32) (upper : Int64) (lower : Int64) (numbers : Nat → Int32) (q : Nat → Int64) (base : Nat → Int64) (least : Nat → Int64) (table : Nat → Int64) (rows : Nat → Int64) (lists : Nat → Int64) (listSize : Nat → Int32) (tried : Nat → Int64) (other : Nat → Int64) (line : Nat → Int64) (makers : Nat → Int64) (touches : Nat → Int64) (made : Nat → Int64) (kindForm : Nat → Int64) (kindTurns : Nat → Int32) (kindWays : Nat → Int32) (p0 : Int64) (p1 : Int64) (o_upper : Int64) (o_lower : Int64) (hF : fX7_add fu upper lower p0 p1 = some (o_upper, o_lower)) : Met l yX7_add vX7_add rmX7_add (va_Pc [.ref h, .long p0, .long p1] (mPc (dC, dI) vwCl (mW cI cJ h a forms prime turns lineT lineU kinds upper lower numbers q base least table rows lists listSize tried other line makers touches made kindForm kindTurns kindWays) [(cI, .int), (cJ, .long)] sz)) (va_Qv (fun (_ : Unit) => True) (mPo (dC, dI) vwCl (mW cI cJ h a forms prime turns lineT lineU kinds o_upper o_lower numbers q base least table rows lists listSize tried other line makers touches made kindForm kindTurns kindWays) [(cI, .int), (cJ, .long)] (va_A (mW cI cJ h a forms prime turns lineT lineU kinds upper lower numbers q base least table rows lists listSize tried other line makers touches made kindForm kindTurns kindWays) sz)) (va_A (mW cI cJ h a forms prime turns lineT lineU kinds upper lower numbers q base least table rows lists listSize tried other line makers touches made kindForm kindTurns kindWays) sz)) 0 0 (va_A (mW cI cJ h a forms prime turns lineT lineU kinds upper lower numbers q base least table rows lists listSize tried other line makers touches made kindForm kindTurns kindWays) sz) := by
  refine Met.ofW (cc := cX7_add) (maxL := 7) (ret := none) (by decide) rfl ?_
  intro p e s m args below meth c s₁ B hml hv
  obtain ⟨rfl, hsz, hP, hK, hD0⟩ := hv
  have hx := B.exec
  have hb := B.bytes
  have hr := B.returns
  have hts := atoms_spec (ws := vX7_add) B.pre
  have hlk : ∀ w ∈ lkX7_add, w.before _ s = true := fun w h => hts w (List.mem_cons_of_mem _ (List.mem_append_left _ h))
  have hown : s.vm.findClass RX7 = some m.cls := findClass_of_methodNamed B.named
  have hlocks := B.notSynchronized
  subst hsz
  have hD := hD0.self (sz := s.heap.size)
  generalize hAe : va_A (mW cI cJ h a forms prime turns lineT lineU kinds upper lower numbers q base least table rows lists listSize tried other line makers touches made kindForm kindTurns kindWays) s.heap.size = A at hD ⊢
  have hA : ∀ q : Nat, s.heap.size ≤ q → A q := fun q h => by rw [← hAe]; exact Or.inr h
  have hS : va_S A s.heap s.heap [] := va_S.rf
  have hinX7 : ∀ w ∈ wsX70, w ∈ vX7_add := fun w h => List.mem_cons_of_mem _ (List.mem_append_right _ (List.mem_append_left _ h))
  have hf_240 := hlk (.fieldLink RX7 240 "KinFormsModel" "upper" "J") (by decide +kernel)
  have hf_244 := hlk (.fieldLink RX7 244 "KinFormsModel" "lower" "J") (by decide +kernel)
  have hl := lv_entry ([.ref h, .long p0, .long p1] : List Value) (n := 7) (Nat.le_of_ble_eq_true rfl)
  rw [lg_entry_eq]
  generalize (lg_sl ([.ref h, .long p0, .long p1] : List Value) ++ List.replicate (7 - (lg_sl ([.ref h, .long p0, .long p1] : List Value)).length) Slot.unset).toArray = ls at hl ⊢
  have hl : lv_has ls 7 [(0, .ref h), (1, .long p0), (3, .long p1)] := hl
  unfold fX7_add at hF
  refine W_Q (fun Q hQ => ?_)
  have hP : va_P (dC, dI) vwCl (mW cI cJ h a forms prime turns lineT lineU kinds upper lower numbers q base least table rows lists listSize tried other line makers touches made kindForm kindTurns kindWays) s.heap := hP
  refine W_HL (fun H locs eH eL => ?_)
  rw [← eH] at hP
  have hS : va_S A s.heap H locs := by rw [eH, eL]; exact hS
  refine lv_aload_n hx hb dX7_add_0 rfl (lv_at hl 0 rfl) ?_
  refine lv_aload_n hx hb dX7_add_1 rfl (lv_at hl 0 rfl) ?_
  refine va_get (D := (dC, dI)) (ci := 5) (v := .long upper) (C := RX7) (T := TX7) (N := 25) hx hb hts hinX7 hown hK hP 0 rfl rfl 23 (by decide) hf_240 (fun _ h9 => h9) rfl dX7_add_2 ?_
  refine lv_lload_n hx hb dX7_add_5 rfl (lv_at hl 2 rfl) ?_
  refine lv_lmul hx hb dX7_add_6 ?_
  refine lv_lload_n hx hb dX7_add_7 rfl (lv_at hl 1 rfl) ?_
  refine lv_aload_n hx hb dX7_add_8 rfl (lv_at hl 0 rfl) ?_
  refine va_get (D := (dC, dI)) (ci := 5) (v := .long lower) (C := RX7) (T := TX7) (N := 25) hx hb hts hinX7 hown hK hP 0 rfl rfl 24 (by decide) hf_244 (fun _ h9 => h9) rfl dX7_add_9 ?_
  refine lv_lmul hx hb dX7_add_12 ?_
  refine lv_ladd hx hb dX7_add_13 ?_
  refine lv_topl (fun upper_1 e_upper_1 => ?_)
  have hF := nm_at hF e_upper_1
  refine va_put (D := (dC, dI)) (ci := 5) (v := .long upper_1) (ty := .long) (C := RX7) (T := TX7) (N := 25) hx hb hts hinX7 tyX7 tyX7_ok nmX7 hown hK hP hD hS 0 rfl rfl 23 (by decide) hf_240 (fun _ h9 => h9) rfl (by decide +kernel) rfl rfl (Nat.le_of_ble_eq_true rfl) dX7_add_14 (fun H locs hP hD hS => ?_)
  have hP : va_P (dC, dI) vwCl (mW cI cJ h a forms prime turns lineT lineU kinds upper_1 lower numbers q base least table rows lists listSize tried other line makers touches made kindForm kindTurns kindWays) H := hP
  have hD : va_D A (mW cI cJ h a forms prime turns lineT lineU kinds upper_1 lower numbers q base least table rows lists listSize tried other line makers touches made kindForm kindTurns kindWays) := hD
  refine lv_aload_n hx hb dX7_add_17 rfl (lv_at hl 0 rfl) ?_
  refine lv_dup hx hb dX7_add_18 rfl ?_
  refine va_get (D := (dC, dI)) (ci := 5) (v := .long lower) (C := RX7) (T := TX7) (N := 25) hx hb hts hinX7 hown hK hP 0 rfl rfl 24 (by decide) hf_244 (fun _ h9 => h9) rfl dX7_add_19 ?_
  refine lv_lload_n hx hb dX7_add_22 rfl (lv_at hl 2 rfl) ?_
  refine lv_lmul hx hb dX7_add_23 ?_
  refine lv_topl (fun lower_2 e_lower_2 => ?_)
  have hF := nm_at hF e_lower_2
  refine va_put (D := (dC, dI)) (ci := 5) (v := .long lower_2) (ty := .long) (C := RX7) (T := TX7) (N := 25) hx hb hts hinX7 tyX7 tyX7_ok nmX7 hown hK hP hD hS 0 rfl rfl 24 (by decide) hf_244 (fun _ h9 => h9) rfl (by decide +kernel) rfl rfl (Nat.le_of_ble_eq_true rfl) dX7_add_24 (fun H locs hP hD hS => ?_)
  have hP : va_P (dC, dI) vwCl (mW cI cJ h a forms prime turns lineT lineU kinds upper_1 lower_2 numbers q base least table rows lists listSize tried other line makers touches made kindForm kindTurns kindWays) H := hP
  have hD : va_D A (mW cI cJ h a forms prime turns lineT lineU kinds upper_1 lower_2 numbers q base least table rows lists listSize tried other line makers touches made kindForm kindTurns kindWays) := hD
  refine lv_aload_n hx hb dX7_add_27 rfl (lv_at hl 0 rfl) ?_
  refine va_get (D := (dC, dI)) (ci := 5) (v := .long upper_1) (C := RX7) (T := TX7) (N := 25) hx hb hts hinX7 hown hK hP 0 rfl rfl 23 (by decide) hf_240 (fun _ h9 => h9) rfl dX7_add_28 ?_
  refine lv_aload_n hx hb dX7_add_31 rfl (lv_at hl 0 rfl) ?_
  refine va_get (D := (dC, dI)) (ci := 5) (v := .long lower_2) (C := RX7) (T := TX7) (N := 25) hx hb hts hinX7 hown hK hP 0 rfl rfl 24 (by decide) hf_244 (fun _ h9 => h9) rfl dX7_add_32 ?_
  obtain ⟨r_3, hc, hF⟩ := bd1_of hF
  refine rc_l (va_runS (As := [.long upper_1, .long lower_2]) (rest := []) ⟨hx, hb, hml, hown, hts⟩ (c_X7_common l fu upper_1 lower_2 r_3 hc) (va_cwS 2 hts g_X7_add_X7_common rfl rfl rfl (by decide +kernel) ⟨Nat.le_of_ble_eq_true rfl, Nat.le_of_ble_eq_true rfl⟩) ⟨tPc_blind, tPc_at⟩ rfl rfl hl.1 rfl (lv_room (Nat.le_of_ble_eq_true rfl)) dX7_add_35 ⟨Nat.zero_le _, Nat.zero_le _⟩) ?_
  refine lv_lstore (lv' := [(5, .long r_3), (0, .ref h), (1, .long p0), (3, .long p1)]) hx hb dX7_add_38 hl (by decide) rfl (fun ls hl => ?_)
  refine lv_aload_n hx hb dX7_add_40 rfl (lv_at hl 1 rfl) ?_
  refine lv_dup hx hb dX7_add_41 rfl ?_
  refine va_get (D := (dC, dI)) (ci := 5) (v := .long upper_1) (C := RX7) (T := TX7) (N := 25) hx hb hts hinX7 hown hK hP 0 rfl rfl 23 (by decide) hf_240 (fun _ h9 => h9) rfl dX7_add_42 ?_
  refine lv_lload hx hb dX7_add_45 (lv_at hl 0 rfl) ?_
  obtain ⟨hz, hF⟩ := ck_of hF
  refine lv_ldiv hx hb dX7_add_47 hz ?_
  refine lv_topl (fun upper_4 e_upper_4 => ?_)
  have hF := nm_at hF e_upper_4
  refine va_put (D := (dC, dI)) (ci := 5) (v := .long upper_4) (ty := .long) (C := RX7) (T := TX7) (N := 25) hx hb hts hinX7 tyX7 tyX7_ok nmX7 hown hK hP hD hS 0 rfl rfl 23 (by decide) hf_240 (fun _ h9 => h9) rfl (by decide +kernel) rfl rfl (Nat.le_of_ble_eq_true rfl) dX7_add_48 (fun H locs hP hD hS => ?_)
  have hP : va_P (dC, dI) vwCl (mW cI cJ h a forms prime turns lineT lineU kinds upper_4 lower_2 numbers q base least table rows lists listSize tried other line makers touches made kindForm kindTurns kindWays) H := hP
  have hD : va_D A (mW cI cJ h a forms prime turns lineT lineU kinds upper_4 lower_2 numbers q base least table rows lists listSize tried other line makers touches made kindForm kindTurns kindWays) := hD
  refine lv_aload_n hx hb dX7_add_51 rfl (lv_at hl 1 rfl) ?_
  refine lv_dup hx hb dX7_add_52 rfl ?_
  refine va_get (D := (dC, dI)) (ci := 5) (v := .long lower_2) (C := RX7) (T := TX7) (N := 25) hx hb hts hinX7 hown hK hP 0 rfl rfl 24 (by decide) hf_244 (fun _ h9 => h9) rfl dX7_add_53 ?_
  refine lv_lload hx hb dX7_add_56 (lv_at hl 0 rfl) ?_
  obtain ⟨hz, hF⟩ := ck_of hF
  refine lv_ldiv hx hb dX7_add_58 hz ?_
  refine lv_topl (fun lower_5 e_lower_5 => ?_)
  have hF := nm_at hF e_lower_5
  refine va_put (D := (dC, dI)) (ci := 5) (v := .long lower_5) (ty := .long) (C := RX7) (T := TX7) (N := 25) hx hb hts hinX7 tyX7 tyX7_ok nmX7 hown hK hP hD hS 0 rfl rfl 24 (by decide) hf_244 (fun _ h9 => h9) rfl (by decide +kernel) rfl rfl (Nat.le_of_ble_eq_true rfl) dX7_add_59 (fun H locs hP hD hS => ?_)
  have hP : va_P (dC, dI) vwCl (mW cI cJ h a forms prime turns lineT lineU kinds upper_4 lower_5 numbers q base least table rows lists listSize tried other line makers touches made kindForm kindTurns kindWays) H := hP
  have hD : va_D A (mW cI cJ h a forms prime turns lineT lineU kinds upper_4 lower_5 numbers q base least table rows lists listSize tried other line makers touches made kindForm kindTurns kindWays) := hD
  obtain ⟨q0, q1⟩ := sm2 hF
  have hP : va_P (dC, dI) vwCl (mW cI cJ h a forms prime turns lineT lineU kinds o_upper o_lower numbers q base least table rows lists listSize tried other line makers touches made kindForm kindTurns kindWays) H := by rw [← q0, ← q1]; exact hP
  have hD : va_D A (mW cI cJ h a forms prime turns lineT lineU kinds o_upper o_lower numbers q base least table rows lists listSize tried other line makers touches made kindForm kindTurns kindWays) := by rw [← q0, ← q1]; exact hD
  refine W_Qe hQ ?_
  exact W.vret hx hb hr (fun t ht hW => ⟨⟨(), rfl, trivial, by rw [ht]; exact hP, va_K.moved hW.alike hK, hD⟩, hS.F ht⟩) hS.2.2 dX7_add_62
def fX7_weigh_L12 (kinds : Int32) (fu : Nat) (kindTurns : Nat → Int32) : Nat → (Int32) → (Int64) → (Int64) → Option ((Int64) × (Int64))
  | 0, _, _, _ => none
  | n + 1, x1_1, upper_2, lower_3 => if kinds ≤ x1_1 then (some (upper_2, lower_3)) else (if okI x1_1 17 then bd2 (fX7_add fu upper_2 lower_3 (1 : Int64) (kindTurns x1_1.toNatClampNeg).toInt64) (fun (upper_4 : Int64) (lower_5 : Int64) => nm (x1_1 + (1 : Int32)) (fun (x1_6 : Int32) => (fX7_weigh_L12 kinds fu kindTurns n x1_6 upper_4 lower_5))) else none)
def fX7_weigh (fu : Nat) (kinds : Int32) (kindTurns : Nat → Int32)  : Option ((Int64) × (Int64)) :=
  (fX7_weigh_L12 kinds fu kindTurns fu (0 : Int32) (0 : Int64) (1 : Int64))
def lkX7_weigh : List Cond := [.fieldLink RX7 240 "KinFormsModel" "upper" "J", .fieldLink RX7 244 "KinFormsModel" "lower" "J", .fieldLink RX7 221 "KinFormsModel" "kinds" "I", .fieldLink RX7 60 "KinFormsModel" "kindTurns" "[I"]
def vX7_weigh : List Cond := .code yX7_weigh cX7_weigh 2 none :: (lkX7_weigh ++ (wsX70 ++ (wsV RX7 251 RX7 yX7_add vX7_add ++ ([]))))
theorem q_X7_weigh : ∀ w ∈ vX7_weigh, goodWord w = true := gd_cons rfl (gd_app (by decide +kernel) (gd_app q_wsX70 (gd_app (gd_V q_X7_add) gd_nil)))
theorem g_X7_weigh_X7_add : GoodIn vX7_weigh (wsV RX7 251 RX7 yX7_add vX7_add) := gi_of (fun w h => List.mem_cons_of_mem _ (List.mem_append_right _ (List.mem_append_right _ (List.mem_append_left _ h)))) (gd_V q_X7_add)
abbrev rmX7_weigh : Room := { frames := 2, cells := 0, slots := 0, locals := 55 }
set_option maxHeartbeats 4000000 in
set_option maxRecDepth 100000 in
theorem c_X7_weigh (l : Launch) (dC : Nat → ClassId) (dI : Nat → Nat → Nat) (cI : ClassId) (cJ : ClassId) (h : Nat) (a : Nat → Nat) (fu : Nat) (sz : Nat) (forms : Int32) (prime : Int32) (turns : Int32) (lineT : Int32) (lineU : Int32) (kinds : Int32) (upper : Int64) (lower : Int64) (numbers : Nat → Int32) (q : Nat → Int64) (base : Nat → Int64) (least : Nat → Int64) (table : Nat → Int64) (rows : Nat → Int64) (lists : Nat → Int64) (listSize : Nat → Int32) (tried : Nat → Int64) (other : Nat → Int64) (line : Nat → Int64) (makers : Nat → Int64) (touches : Nat → Int64) (made : Nat → Int64) (kindForm : Nat → Int64) (kindTurns : Nat → Int32) (kindWays : Nat → Int32)  (o_upper : Int64) (o_lower : Int64) (hF : fX7_weigh fu kinds kindTurns = some (o_upper, o_lower)) : Met l yX7_weigh vX7_weigh rmX7_weigh (va_Pc [.ref h] (mPc (dC, dI) vwCl (mW cI cJ h a forms prime turns lineT lineU kinds upper lower numbers q base least table rows lists listSize tried other line makers touches made kindForm kindTurns kindWays) [(cI, .int), (cJ, .long)] sz)) (va_Qv (fun (_ : Unit) => True) (mPo (dC, dI) vwCl (mW cI cJ h a forms prime turns lineT lineU kinds o_upper o_lower numbers q base least table rows lists listSize tried other line makers touches made kindForm kindTurns kindWays) [(cI, .int), (cJ, .long)] (va_A (mW cI cJ h a forms prime turns lineT lineU kinds upper lower numbers q base least table rows lists listSize tried other line makers touches made kindForm kindTurns kindWays) sz)) (va_A (mW cI cJ h a forms prime turns lineT lineU kinds upper lower numbers q base least table rows lists listSize tried other line makers touches made kindForm kindTurns kindWays) sz)) 0 0 (va_A (mW cI cJ h a forms prime turns lineT lineU kinds upper lower numbers q base least table rows lists listSize tried other line makers touches made kindForm kindTurns kindWays) sz) := by
  refine Met.ofW (cc := cX7_weigh) (maxL := 2) (ret := none) (by decide) rfl ?_
  intro p e s m args below meth c s₁ B hml hv
  obtain ⟨rfl, hsz, hP, hK, hD0⟩ := hv
  have hx := B.exec
  have hb := B.bytes
  have hr := B.returns
  have hts := atoms_spec (ws := vX7_weigh) B.pre
  have hlk : ∀ w ∈ lkX7_weigh, w.before _ s = true := fun w h => hts w (List.mem_cons_of_mem _ (List.mem_append_left _ h))
  have hown : s.vm.findClass RX7 = some m.cls := findClass_of_methodNamed B.named
  have hlocks := B.notSynchronized
  subst hsz
  have hD := hD0.self (sz := s.heap.size)
  generalize hAe : va_A (mW cI cJ h a forms prime turns lineT lineU kinds upper lower numbers q base least table rows lists listSize tried other line makers touches made kindForm kindTurns kindWays) s.heap.size = A at hD ⊢
  have hA : ∀ q : Nat, s.heap.size ≤ q → A q := fun q h => by rw [← hAe]; exact Or.inr h
  have hS : va_S A s.heap s.heap [] := va_S.rf
  have hinX7 : ∀ w ∈ wsX70, w ∈ vX7_weigh := fun w h => List.mem_cons_of_mem _ (List.mem_append_right _ (List.mem_append_left _ h))
  have hf_240 := hlk (.fieldLink RX7 240 "KinFormsModel" "upper" "J") (by decide +kernel)
  have hf_244 := hlk (.fieldLink RX7 244 "KinFormsModel" "lower" "J") (by decide +kernel)
  have hf_221 := hlk (.fieldLink RX7 221 "KinFormsModel" "kinds" "I") (by decide +kernel)
  have hf_60 := hlk (.fieldLink RX7 60 "KinFormsModel" "kindTurns" "[I") (by decide +kernel)
  have hl := lv_entry ([.ref h] : List Value) (n := 2) (Nat.le_of_ble_eq_true rfl)
  rw [lg_entry_eq]
  generalize (lg_sl ([.ref h] : List Value) ++ List.replicate (2 - (lg_sl ([.ref h] : List Value)).length) Slot.unset).toArray = ls at hl ⊢
  have hl : lv_has ls 2 [(0, .ref h)] := hl
  unfold fX7_weigh at hF
  refine W_Q (fun Q hQ => ?_)
  have hP : va_P (dC, dI) vwCl (mW cI cJ h a forms prime turns lineT lineU kinds upper lower numbers q base least table rows lists listSize tried other line makers touches made kindForm kindTurns kindWays) s.heap := hP
  refine W_HL (fun H locs eH eL => ?_)
  rw [← eH] at hP
  have hS : va_S A s.heap H locs := by rw [eH, eL]; exact hS
  refine lv_aload_n hx hb dX7_weigh_0 rfl (lv_at hl 0 rfl) ?_
  refine lv_lconst (v := 0) hx hb dX7_weigh_1 (by decide) ?_
  refine va_put (D := (dC, dI)) (ci := 5) (v := .long (0 : Int64)) (ty := .long) (C := RX7) (T := TX7) (N := 25) hx hb hts hinX7 tyX7 tyX7_ok nmX7 hown hK hP hD hS 0 rfl rfl 23 (by decide) hf_240 (fun _ h9 => h9) rfl (by decide +kernel) rfl rfl (Nat.le_of_ble_eq_true rfl) dX7_weigh_2 (fun H locs hP hD hS => ?_)
  have hP : va_P (dC, dI) vwCl (mW cI cJ h a forms prime turns lineT lineU kinds (0 : Int64) lower numbers q base least table rows lists listSize tried other line makers touches made kindForm kindTurns kindWays) H := hP
  have hD : va_D A (mW cI cJ h a forms prime turns lineT lineU kinds (0 : Int64) lower numbers q base least table rows lists listSize tried other line makers touches made kindForm kindTurns kindWays) := hD
  refine lv_aload_n hx hb dX7_weigh_5 rfl (lv_at hl 0 rfl) ?_
  refine lv_lconst (v := 1) hx hb dX7_weigh_6 (by decide) ?_
  refine va_put (D := (dC, dI)) (ci := 5) (v := .long (1 : Int64)) (ty := .long) (C := RX7) (T := TX7) (N := 25) hx hb hts hinX7 tyX7 tyX7_ok nmX7 hown hK hP hD hS 0 rfl rfl 24 (by decide) hf_244 (fun _ h9 => h9) rfl (by decide +kernel) rfl rfl (Nat.le_of_ble_eq_true rfl) dX7_weigh_7 (fun H locs hP hD hS => ?_)
  have hP : va_P (dC, dI) vwCl (mW cI cJ h a forms prime turns lineT lineU kinds (0 : Int64) (1 : Int64) numbers q base least table rows lists listSize tried other line makers touches made kindForm kindTurns kindWays) H := hP
  have hD : va_D A (mW cI cJ h a forms prime turns lineT lineU kinds (0 : Int64) (1 : Int64) numbers q base least table rows lists listSize tried other line makers touches made kindForm kindTurns kindWays) := hD
  refine lv_iconst (v := 0) hx hb dX7_weigh_10 (by decide) ?_
  refine lv_istore_n (lv' := [(1, .int (0 : Int32)), (0, .ref h)]) hx hb dX7_weigh_11 rfl hl (by decide) rfl (fun ls hl => ?_)
  have hL12 : ∀ n : Nat, ∀ (x1_1 : Int32) (upper_2 : Int64) (lower_3 : Int64) (H : Heap) (locs : List Loc) (ls : Array Slot), va_P (dC, dI) vwCl (mW cI cJ h a forms prime turns lineT lineU kinds upper_2 lower_3 numbers q base least table rows lists listSize tried other line makers touches made kindForm kindTurns kindWays) H → va_D A (mW cI cJ h a forms prime turns lineT lineU kinds upper_2 lower_3 numbers q base least table rows lists listSize tried other line makers touches made kindForm kindTurns kindWays) → va_S A s.heap H locs → lv_has ls 2 [(0, .ref h), (1, .int x1_1)] → fX7_weigh_L12 kinds fu kindTurns n x1_1 upper_2 lower_3 = some (o_upper, o_lower) → W p l e rmX7_weigh s m ([.ref h] : List Value).toArray below meth c H locs 0 0 Q (F0 m 12 ls []) := by
    intro n
    induction n with
    | zero => intro x1_1 upper_2 lower_3 H locs ls hP hD hS hl hF; rw [fX7_weigh_L12] at hF; cases hF
    | succ n ih12 =>
      intro x1_1 upper_2 lower_3 H locs ls hP hD hS hl hF
      rw [fX7_weigh_L12] at hF
      refine lv_iload_n hx hb dX7_weigh_12 rfl (lv_at hl 1 rfl) ?_
      refine lv_aload_n hx hb dX7_weigh_13 rfl (lv_at hl 0 rfl) ?_
      refine va_get (D := (dC, dI)) (ci := 5) (v := .int kinds) (C := RX7) (T := TX7) (N := 25) hx hb hts hinX7 hown hK hP 0 rfl rfl 19 (by decide) hf_221 (fun _ h9 => h9) rfl dX7_weigh_14 ?_
      refine lv_icmp_ge (tgt := 38) hx hb dX7_weigh_17 (by decide) (fun c0 => ?_) (fun c0 => ?_)
      · have hF := if_t hF c0
        obtain ⟨q0, q1⟩ := sm2 hF
        have hP : va_P (dC, dI) vwCl (mW cI cJ h a forms prime turns lineT lineU kinds o_upper o_lower numbers q base least table rows lists listSize tried other line makers touches made kindForm kindTurns kindWays) H := by rw [← q0, ← q1]; exact hP
        have hD : va_D A (mW cI cJ h a forms prime turns lineT lineU kinds o_upper o_lower numbers q base least table rows lists listSize tried other line makers touches made kindForm kindTurns kindWays) := by rw [← q0, ← q1]; exact hD
        refine W_Qe hQ ?_
        exact W.vret hx hb hr (fun t ht hW => ⟨⟨(), rfl, trivial, by rw [ht]; exact hP, va_K.moved hW.alike hK, hD⟩, hS.F ht⟩) hS.2.2 dX7_weigh_38
      · have hF := if_f hF c0
        refine lv_aload_n hx hb dX7_weigh_20 rfl (lv_at hl 0 rfl) ?_
        refine lv_lconst (v := 1) hx hb dX7_weigh_21 (by decide) ?_
        refine lv_aload_n hx hb dX7_weigh_22 rfl (lv_at hl 0 rfl) ?_
        refine va_get (D := (dC, dI)) (ci := 5) (v := .ref (a 16)) (C := RX7) (T := TX7) (N := 25) hx hb hts hinX7 hown hK hP 0 rfl rfl 21 (by decide) hf_60 (fun _ h9 => h9) rfl dX7_weigh_23 ?_
        refine lv_iload_n hx hb dX7_weigh_26 rfl (lv_at hl 1 rfl) ?_
        obtain ⟨hi, hF⟩ := ck_of hF
        refine va_iald hx hb hK hP 16 0 rfl rfl hi dX7_weigh_27 ?_
        refine lv_i2l (v := (kindTurns x1_1.toNatClampNeg).toInt64) hx hb dX7_weigh_28 rfl ?_
        obtain ⟨upper_4, lower_5, hc, hF⟩ := bd2_of hF
        refine mc_v (va_runV (As := [.long (1 : Int64), .long (kindTurns x1_1.toNatClampNeg).toInt64]) (rest := []) ⟨hx, hb, hml, hown, hts⟩ (c_X7_add l dC dI cI cJ h a fu H.size forms prime turns lineT lineU kinds upper_2 lower_3 numbers q base least table rows lists listSize tried other line makers touches made kindForm kindTurns kindWays (1 : Int64) (kindTurns x1_1.toNatClampNeg).toInt64 upper_4 lower_5 hc) (cwV 2 hts g_X7_weigh_X7_add rfl rfl rfl (by decide +kernel) ⟨Nat.le_of_ble_eq_true rfl, Nat.le_of_ble_eq_true rfl⟩) ⟨mPc_blind, va_recv hK hP (ci := 5) (q0 := 0) rfl rfl, mPc_at hK hP hD⟩ rfl rfl hl.1 rfl (lv_room (Nat.le_of_ble_eq_true rfl)) dX7_weigh_29 ⟨Nat.zero_le _, Nat.zero_le _⟩) hS (fr_all hD hS hA) (fun H locs hP hD hS => ?_)
        obtain ⟨x1_6, e_x1_6, hF⟩ := nm_ex hF
        refine lv_iinc (v := x1_6) (lv' := [(1, .int x1_6), (0, .ref h)]) hx hb dX7_weigh_32 hl (k := 1) rfl (by rw [e_x1_6]; rfl) (by decide) rfl (fun ls hl => ?_)
        refine lv_goto (tgt := 12) hx hb dX7_weigh_35 (by decide) ?_
        exact ih12 x1_6 upper_4 lower_5 H locs ls hP hD hS (lv_sub hl [1, 0] rfl) hF
  exact hL12 fu (0 : Int32) (0 : Int64) (1 : Int64) H locs ls hP hD hS (lv_sub hl [1, 0] rfl) hF
def fX7_weight (fu : Nat) (forms : Int32) (prime : Int32) (turns : Int32) (lineT : Int32) (lineU : Int32) (kinds : Int32) (upper : Int64) (lower : Int64) (numbers : Nat → Int32) (q : Nat → Int64) (base : Nat → Int64) (least : Nat → Int64) (table : Nat → Int64) (rows : Nat → Int64) (lists : Nat → Int64) (listSize : Nat → Int32) (tried : Nat → Int64) (line : Nat → Int64) (makers : Nat → Int64) (touches : Nat → Int64) (made : Nat → Int64) (kindForm : Nat → Int64) (kindTurns : Nat → Int32) (kindWays : Nat → Int32) (p0 : Int32) (p1 : Int32) : Option (Int64 × (Int32) × (Int32) × (Int32) × (Int32) × (Int64) × (Int64) × (Nat → Int64) × (Nat → Int64) × (Nat → Int64) × (Nat → Int64) × (Nat → Int64) × (Nat → Int64) × (Nat → Int32) × (Nat → Int64) × (Nat → Int64) × (Nat → Int64) × (Nat → Int64) × (Nat → Int64) × (Nat → Int64) × (Nat → Int32) × (Nat → Int32)) :=
  bd1 (fX7_isForm forms p0) (fun (r_1 : Int32) => if r_1 = 0 then (some ((-100001 : Int64), turns, lineT, lineU, kinds, upper, lower, q, base, least, table, rows, lists, listSize, tried, line, makers, touches, made, kindForm, kindTurns, kindWays)) else (bd1 (fX7_in p1.toInt64 (0 : Int64) (1 : Int64)) (fun (r_2 : Int32) => if r_2 = 0 then (some ((-100002 : Int64), turns, lineT, lineU, kinds, upper, lower, q, base, least, table, rows, lists, listSize, tried, line, makers, touches, made, kindForm, kindTurns, kindWays)) else (bd20 (fX7_findKin fu prime turns lineT lineU kinds numbers q base least table rows lists listSize tried line makers touches made kindForm kindTurns kindWays p0) (fun (r_3 : Int32) (turns_4 : Int32) (lineT_5 : Int32) (lineU_6 : Int32) (kinds_7 : Int32) (q_8 : Nat → Int64) (base_9 : Nat → Int64) (least_10 : Nat → Int64) (table_11 : Nat → Int64) (rows_12 : Nat → Int64) (lists_13 : Nat → Int64) (listSize_14 : Nat → Int32) (tried_15 : Nat → Int64) (line_16 : Nat → Int64) (makers_17 : Nat → Int64) (touches_18 : Nat → Int64) (made_19 : Nat → Int64) (kindForm_20 : Nat → Int64) (kindTurns_21 : Nat → Int32) (kindWays_22 : Nat → Int32) => if 0 ≤ r_3 then (bd2 (fX7_weigh fu kinds_7 kindTurns_21) (fun (upper_23 : Int64) (lower_24 : Int64) => nm (fun (s_25 : Int64) => some (s_25, turns_4, lineT_5, lineU_6, kinds_7, upper_23, lower_24, q_8, base_9, least_10, table_11, rows_12, lists_13, listSize_14, tried_15, line_16, makers_17, touches_18, made_19, kindForm_20, kindTurns_21, kindWays_22)) (fun (k58 : (Int64) → Option (Int64 × (Int32) × (Int32) × (Int32) × (Int32) × (Int64) × (Int64) × (Nat → Int64) × (Nat → Int64) × (Nat → Int64) × (Nat → Int64) × (Nat → Int64) × (Nat → Int64) × (Nat → Int32) × (Nat → Int64) × (Nat → Int64) × (Nat → Int64) × (Nat → Int64) × (Nat → Int64) × (Nat → Int64) × (Nat → Int32) × (Nat → Int32))) => if p1 = 0 then ((k58 upper_23)) else ((k58 lower_24))))) else (nm (r_3.toInt64) (fun (v_26 : Int64) => some (v_26, turns_4, lineT_5, lineU_6, kinds_7, upper, lower, q_8, base_9, least_10, table_11, rows_12, lists_13, listSize_14, tried_15, line_16, makers_17, touches_18, made_19, kindForm_20, kindTurns_21, kindWays_22))))))))
def lkX7_weight : List Cond := [.constantLong RX7 257 (-100002), .constantLong RX7 255 (-100001), .fieldLink RX7 244 "KinFormsModel" "lower" "J", .fieldLink RX7 240 "KinFormsModel" "upper" "J"]
def vX7_weight : List Cond := .code yX7_weight cX7_weight 4 (some .long) :: (lkX7_weight ++ (wsX70 ++ (wsV RX7 166 RX7 yX7_isForm vX7_isForm ++ (va_wsS RX7 147 yX7_in vX7_in ++ (wsV RX7 235 RX7 yX7_findKin vX7_findKin ++ (wsV RX7 259 RX7 yX7_weigh vX7_weigh ++ ([])))))))
theorem q_X7_weight : ∀ w ∈ vX7_weight, goodWord w = true := gd_cons rfl (gd_app (by decide +kernel) (gd_app q_wsX70 (gd_app (gd_V q_X7_isForm) (gd_app (gd_S q_X7_in) (gd_app (gd_V q_X7_findKin) (gd_app (gd_V q_X7_weigh) gd_nil))))))
theorem g_X7_weight_X7_isForm : GoodIn vX7_weight (wsV RX7 166 RX7 yX7_isForm vX7_isForm) := gi_of (fun w h => List.mem_cons_of_mem _ (List.mem_append_right _ (List.mem_append_right _ (List.mem_append_left _ h)))) (gd_V q_X7_isForm)
theorem g_X7_weight_X7_in : GoodIn vX7_weight (va_wsS RX7 147 yX7_in vX7_in) := gi_of (fun w h => List.mem_cons_of_mem _ (List.mem_append_right _ (List.mem_append_right _ (List.mem_append_right _ (List.mem_append_left _ h))))) (gd_S q_X7_in)
theorem g_X7_weight_X7_findKin : GoodIn vX7_weight (wsV RX7 235 RX7 yX7_findKin vX7_findKin) := gi_of (fun w h => List.mem_cons_of_mem _ (List.mem_append_right _ (List.mem_append_right _ (List.mem_append_right _ (List.mem_append_right _ (List.mem_append_left _ h)))))) (gd_V q_X7_findKin)
theorem g_X7_weight_X7_weigh : GoodIn vX7_weight (wsV RX7 259 RX7 yX7_weigh vX7_weigh) := gi_of (fun w h => List.mem_cons_of_mem _ (List.mem_append_right _ (List.mem_append_right _ (List.mem_append_right _ (List.mem_append_right _ (List.mem_append_right _ (List.mem_append_left _ h))))))) (gd_V q_X7_weigh)
abbrev rmX7_weight : Room := { frames := 7, cells := 0, slots := 0, locals := 192 }
set_option maxHeartbeats 4000000 in
set_option maxRecDepth 100000 in
theorem c_X7_weight (l : Launch) (dC : Nat → ClassId) (dI : Nat → Nat → Nat) (cI : ClassId) (cJ : ClassId) (h : Nat) (a : Nat → Nat) (fu : Nat) (sz : Nat) (forms : Int32) (prime : Int32) (turns : Int32) (lineT : Int32) (lineU : Int32) (kinds : Int32) (upper : Int64) (lower : Int64) (numbers : Nat → Int32) (q : Nat → Int64) (base : Nat → Int64) (least : Nat → Int64) (table : Nat → Int64) (rows : Nat → Int64) (lists : Nat → Int64) (listSize : Nat → Int32) (tried : Nat → Int64) (other : Nat → Int64) (line : Nat → Int64) (makers : Nat → Int64) (touches : Nat → Int64) (made : Nat → Int64) (kindForm : Nat → Int64) (kindTurns : Nat → Int32) (kindWays : Nat → Int32) (p0 : Int32) (p1 : Int32) (ro : Int64) (o_turns : Int32) (o_lineT : Int32) (o_lineU : Int32) (o_kinds : Int32) (o_upper : Int64) (o_lower : Int64) (o_q : Nat → Int64) (o_base : Nat → Int64) (o_least : Nat → Int64) (o_table : Nat → Int64) (o_rows : Nat → Int64) (o_lists : Nat → Int64) (o_listSize : Nat → Int32) (o_tried : Nat → Int64) (o_line : Nat → Int64) (o_makers : Nat → Int64) (o_touches : Nat → Int64) (o_made : Nat → Int64) (o_kindForm : Nat → Int64) (o_kindTurns : Nat → Int32) (o_kindWays : Nat → Int32) (hF : fX7_weight fu forms prime turns lineT lineU kinds upper lower numbers q base least table rows lists listSize tried line makers touches made kindForm kindTurns kindWays p0 p1 = some (ro, o_turns, o_lineT, o_lineU, o_kinds, o_upper, o_lower, o_q, o_base, o_least, o_table, o_rows, o_lists, o_listSize, o_tried, o_line, o_makers, o_touches, o_made, o_kindForm, o_kindTurns, o_kindWays)) : Met l yX7_weight vX7_weight rmX7_weight (va_Pc [.ref h, .int p0, .int p1] (mPc (dC, dI) vwCl (mW cI cJ h a forms prime turns lineT lineU kinds upper lower numbers q base least table rows lists listSize tried other line makers touches made kindForm kindTurns kindWays) [(cI, .int), (cJ, .long)] sz)) (va_Ql (fun x (_ : Unit) => x = ro) (mPo (dC, dI) vwCl (mW cI cJ h a forms prime o_turns o_lineT o_lineU o_kinds o_upper o_lower numbers o_q o_base o_least o_table o_rows o_lists o_listSize o_tried other o_line o_makers o_touches o_made o_kindForm o_kindTurns o_kindWays) [(cI, .int), (cJ, .long)] (va_A (mW cI cJ h a forms prime turns lineT lineU kinds upper lower numbers q base least table rows lists listSize tried other line makers touches made kindForm kindTurns kindWays) sz)) (va_A (mW cI cJ h a forms prime turns lineT lineU kinds upper lower numbers q base least table rows lists listSize tried other line makers touches made kindForm kindTurns kindWays) sz)) 0 0 (va_A (mW cI cJ h a forms prime turns lineT lineU kinds upper lower numbers q base least table rows lists listSize tried other line makers touches made kindForm kindTurns kindWays) sz) := by
  refine Met.ofW (cc := cX7_weight) (maxL := 4) (ret := (some .long)) (by decide) rfl ?_
  intro p e s m args below meth c s₁ B hml hv
  obtain ⟨rfl, hsz, hP, hK, hD0⟩ := hv
  have hx := B.exec
  have hb := B.bytes
  have hr := B.returns
  have hts := atoms_spec (ws := vX7_weight) B.pre
  have hlk : ∀ w ∈ lkX7_weight, w.before _ s = true := fun w h => hts w (List.mem_cons_of_mem _ (List.mem_append_left _ h))
  have hown : s.vm.findClass RX7 = some m.cls := findClass_of_methodNamed B.named
  have hlocks := B.notSynchronized
  subst hsz
  have hD := hD0.self (sz := s.heap.size)
  generalize hAe : va_A (mW cI cJ h a forms prime turns lineT lineU kinds upper lower numbers q base least table rows lists listSize tried other line makers touches made kindForm kindTurns kindWays) s.heap.size = A at hD ⊢
  have hA : ∀ q : Nat, s.heap.size ≤ q → A q := fun q h => by rw [← hAe]; exact Or.inr h
  have hS : va_S A s.heap s.heap [] := va_S.rf
  have hinX7 : ∀ w ∈ wsX70, w ∈ vX7_weight := fun w h => List.mem_cons_of_mem _ (List.mem_append_right _ (List.mem_append_left _ h))
  have hf_244 := hlk (.fieldLink RX7 244 "KinFormsModel" "lower" "J") (by decide +kernel)
  have hf_240 := hlk (.fieldLink RX7 240 "KinFormsModel" "upper" "J") (by decide +kernel)
  have hl := lv_entry ([.ref h, .int p0, .int p1] : List Value) (n := 4) (Nat.le_of_ble_eq_true rfl)
  rw [lg_entry_eq]
  generalize (lg_sl ([.ref h, .int p0, .int p1] : List Value) ++ List.replicate (4 - (lg_sl ([.ref h, .int p0, .int p1] : List Value)).length) Slot.unset).toArray = ls at hl ⊢
  have hl : lv_has ls 4 [(0, .ref h), (1, .int p0), (2, .int p1)] := hl
  unfold fX7_weight at hF
  refine W_Q (fun Q hQ => ?_)
  have hP : va_P (dC, dI) vwCl (mW cI cJ h a forms prime turns lineT lineU kinds upper lower numbers q base least table rows lists listSize tried other line makers touches made kindForm kindTurns kindWays) s.heap := hP
  refine W_HL (fun H locs eH eL => ?_)
  rw [← eH] at hP
  have hS : va_S A s.heap H locs := by rw [eH, eL]; exact hS
  refine lv_aload_n hx hb dX7_weight_0 rfl (lv_at hl 0 rfl) ?_
  refine lv_iload_n hx hb dX7_weight_1 rfl (lv_at hl 1 rfl) ?_
  obtain ⟨r_1, hc, hF⟩ := bd1_of hF
  refine rc_i (va_runV (As := [.int p0]) (rest := []) ⟨hx, hb, hml, hown, hts⟩ (c_X7_isForm l dC dI cI cJ h a forms prime turns lineT lineU kinds upper lower numbers q base least table rows lists listSize tried other line makers touches made kindForm kindTurns kindWays p0 r_1 hc) (cwV 1 hts g_X7_weight_X7_isForm rfl rfl rfl (by decide +kernel) ⟨Nat.le_of_ble_eq_true rfl, Nat.le_of_ble_eq_true rfl⟩) ⟨rPc_blind, va_recv hK hP (ci := 5) (q0 := 0) rfl rfl, rPc_at hK hP⟩ rfl rfl hl.1 rfl (lv_room (Nat.le_of_ble_eq_true rfl)) dX7_weight_2 ⟨Nat.zero_le _, Nat.zero_le _⟩) ?_
  refine lv_if_ne (tgt := 12) hx hb dX7_weight_5 (by decide) (fun c0 => ?_) (fun c0 => ?_)
  · have hF := if_f hF c0
    refine lv_iload_n hx hb dX7_weight_12 rfl (lv_at hl 2 rfl) ?_
    refine lv_i2l (v := p1.toInt64) hx hb dX7_weight_13 rfl ?_
    refine lv_lconst (v := 0) hx hb dX7_weight_14 (by decide) ?_
    refine lv_lconst (v := 1) hx hb dX7_weight_15 (by decide) ?_
    obtain ⟨r_2, hc, hF⟩ := bd1_of hF
    refine rc_i (va_runS (As := [.long p1.toInt64, .long (0 : Int64), .long (1 : Int64)]) (rest := []) ⟨hx, hb, hml, hown, hts⟩ (c_X7_in l p1.toInt64 (0 : Int64) (1 : Int64) r_2 hc) (va_cwS 3 hts g_X7_weight_X7_in rfl rfl rfl (by decide +kernel) ⟨Nat.le_of_ble_eq_true rfl, Nat.le_of_ble_eq_true rfl⟩) ⟨tPc_blind, tPc_at⟩ rfl rfl hl.1 rfl (lv_room (Nat.le_of_ble_eq_true rfl)) dX7_weight_16 ⟨Nat.zero_le _, Nat.zero_le _⟩) ?_
    refine lv_if_ne (tgt := 26) hx hb dX7_weight_19 (by decide) (fun c0 => ?_) (fun c0 => ?_)
    · have hF := if_f hF c0
      refine lv_aload_n hx hb dX7_weight_26 rfl (lv_at hl 0 rfl) ?_
      refine lv_iload_n hx hb dX7_weight_27 rfl (lv_at hl 1 rfl) ?_
      obtain ⟨r_3, turns_4, lineT_5, lineU_6, kinds_7, q_8, base_9, least_10, table_11, rows_12, lists_13, listSize_14, tried_15, line_16, makers_17, touches_18, made_19, kindForm_20, kindTurns_21, kindWays_22, hc, hF⟩ := bd20_of hF
      refine mc_i (va_runV (As := [.int p0]) (rest := []) ⟨hx, hb, hml, hown, hts⟩ (c_X7_findKin l dC dI cI cJ h a fu H.size forms prime turns lineT lineU kinds upper lower numbers q base least table rows lists listSize tried other line makers touches made kindForm kindTurns kindWays p0 r_3 turns_4 lineT_5 lineU_6 kinds_7 q_8 base_9 least_10 table_11 rows_12 lists_13 listSize_14 tried_15 line_16 makers_17 touches_18 made_19 kindForm_20 kindTurns_21 kindWays_22 hc) (cwV 1 hts g_X7_weight_X7_findKin rfl rfl rfl (by decide +kernel) ⟨Nat.le_of_ble_eq_true rfl, Nat.le_of_ble_eq_true rfl⟩) ⟨mPc_blind, va_recv hK hP (ci := 5) (q0 := 0) rfl rfl, mPc_at hK hP hD⟩ rfl rfl hl.1 rfl (lv_room (Nat.le_of_ble_eq_true rfl)) dX7_weight_28 ⟨Nat.zero_le _, Nat.zero_le _⟩) hS (fr_all hD hS hA) (fun H locs hP hD hS => ?_)
      refine lv_istore_n (lv' := [(3, .int r_3), (0, .ref h), (1, .int p0), (2, .int p1)]) hx hb dX7_weight_31 rfl hl (by decide) rfl (fun ls hl => ?_)
      refine lv_iload_n hx hb dX7_weight_32 rfl (lv_at hl 0 rfl) ?_
      refine lv_if_ge (tgt := 39) hx hb dX7_weight_33 (by decide) (fun c0 => ?_) (fun c0 => ?_)
      · have hF := if_t hF c0
        refine lv_aload_n hx hb dX7_weight_39 rfl (lv_at hl 1 rfl) ?_
        obtain ⟨upper_23, lower_24, hc, hF⟩ := bd2_of hF
        refine mc_v (va_runV (As := []) (rest := []) ⟨hx, hb, hml, hown, hts⟩ (c_X7_weigh l dC dI cI cJ h a fu H.size forms prime turns_4 lineT_5 lineU_6 kinds_7 upper lower numbers q_8 base_9 least_10 table_11 rows_12 lists_13 listSize_14 tried_15 other line_16 makers_17 touches_18 made_19 kindForm_20 kindTurns_21 kindWays_22  upper_23 lower_24 hc) (cwV 0 hts g_X7_weight_X7_weigh rfl rfl rfl (by decide +kernel) ⟨Nat.le_of_ble_eq_true rfl, Nat.le_of_ble_eq_true rfl⟩) ⟨mPc_blind, va_recv hK hP (ci := 5) (q0 := 0) rfl rfl, mPc_at hK hP hD⟩ rfl rfl hl.1 rfl (lv_room (Nat.le_of_ble_eq_true rfl)) dX7_weight_40 ⟨Nat.zero_le _, Nat.zero_le _⟩) hS (fr_all hD hS hA) (fun H locs hP hD hS => ?_)
        refine lv_iload_n hx hb dX7_weight_43 rfl (lv_at hl 3 rfl) ?_
        obtain ⟨k58, e_k58, hF⟩ := nm_ex hF
        have hk58 : ∀ (s_25 : Int64) (H : Heap) (locs : List Loc) (ls : Array Slot), va_P (dC, dI) vwCl (mW cI cJ h a forms prime turns_4 lineT_5 lineU_6 kinds_7 upper_23 lower_24 numbers q_8 base_9 least_10 table_11 rows_12 lists_13 listSize_14 tried_15 other line_16 makers_17 touches_18 made_19 kindForm_20 kindTurns_21 kindWays_22) H → va_D A (mW cI cJ h a forms prime turns_4 lineT_5 lineU_6 kinds_7 upper_23 lower_24 numbers q_8 base_9 least_10 table_11 rows_12 lists_13 listSize_14 tried_15 other line_16 makers_17 touches_18 made_19 kindForm_20 kindTurns_21 kindWays_22) → va_S A s.heap H locs → lv_has ls 4 [] → k58 s_25 = some (ro, o_turns, o_lineT, o_lineU, o_kinds, o_upper, o_lower, o_q, o_base, o_least, o_table, o_rows, o_lists, o_listSize, o_tried, o_line, o_makers, o_touches, o_made, o_kindForm, o_kindTurns, o_kindWays) → W p l e rmX7_weight s m ([.ref h, .int p0, .int p1] : List Value).toArray below meth c H locs 0 0 Q (F0 m 58 ls [.long s_25]) := by
          intro s_25 H locs ls hP hD hS hl hF
          have hF := ka1 e_k58 hF
          obtain ⟨q0, q1, q2, q3, q4, q5, q6, q7, q8, q9, q10, q11, q12, q13, q14, q15, q16, q17, q18, q19, q20, q21⟩ := sm22 hF
          have hP : va_P (dC, dI) vwCl (mW cI cJ h a forms prime o_turns o_lineT o_lineU o_kinds o_upper o_lower numbers o_q o_base o_least o_table o_rows o_lists o_listSize o_tried other o_line o_makers o_touches o_made o_kindForm o_kindTurns o_kindWays) H := by rw [← q1, ← q2, ← q3, ← q4, ← q5, ← q6, ← q7, ← q8, ← q9, ← q10, ← q11, ← q12, ← q13, ← q14, ← q15, ← q16, ← q17, ← q18, ← q19, ← q20, ← q21]; exact hP
          have hD : va_D A (mW cI cJ h a forms prime o_turns o_lineT o_lineU o_kinds o_upper o_lower numbers o_q o_base o_least o_table o_rows o_lists o_listSize o_tried other o_line o_makers o_touches o_made o_kindForm o_kindTurns o_kindWays) := by rw [← q1, ← q2, ← q3, ← q4, ← q5, ← q6, ← q7, ← q8, ← q9, ← q10, ← q11, ← q12, ← q13, ← q14, ← q15, ← q16, ← q17, ← q18, ← q19, ← q20, ← q21]; exact hD
          refine W_Qe hQ ?_
          exact W.lret hx hb hr (fun t ht hW => ⟨⟨s_25, (), rfl, q0, by rw [ht]; exact hP, va_K.moved hW.alike hK, hD⟩, hS.F ht⟩) hS.2.2 dX7_weight_58
        clear e_k58
        refine lv_if_ne (tgt := 54) hx hb dX7_weight_44 (by decide) (fun c0 => ?_) (fun c0 => ?_)
        · have hF := if_f hF c0
          refine lv_aload_n hx hb dX7_weight_54 rfl (lv_at hl 1 rfl) ?_
          refine va_get (D := (dC, dI)) (ci := 5) (v := .long lower_24) (C := RX7) (T := TX7) (N := 25) hx hb hts hinX7 hown hK hP 0 rfl rfl 24 (by decide) hf_244 (fun _ h9 => h9) rfl dX7_weight_55 ?_
          exact hk58 lower_24 H locs ls hP hD hS (lv_sub hl [] rfl) hF
        · have hF := if_t hF c0
          refine lv_aload_n hx hb dX7_weight_47 rfl (lv_at hl 1 rfl) ?_
          refine va_get (D := (dC, dI)) (ci := 5) (v := .long upper_23) (C := RX7) (T := TX7) (N := 25) hx hb hts hinX7 hown hK hP 0 rfl rfl 23 (by decide) hf_240 (fun _ h9 => h9) rfl dX7_weight_48 ?_
          refine lv_goto (tgt := 58) hx hb dX7_weight_51 (by decide) ?_
          exact hk58 upper_23 H locs ls hP hD hS (lv_sub hl [] rfl) hF
      · have hF := if_f hF c0
        refine lv_iload_n hx hb dX7_weight_36 rfl (lv_at hl 0 rfl) ?_
        refine lv_i2l (v := r_3.toInt64) hx hb dX7_weight_37 rfl ?_
        refine lv_topl (fun v_26 e_v_26 => ?_)
        have hF := nm_at hF e_v_26
        obtain ⟨q0, q1, q2, q3, q4, q5, q6, q7, q8, q9, q10, q11, q12, q13, q14, q15, q16, q17, q18, q19, q20, q21⟩ := sm22 hF
        have hP : va_P (dC, dI) vwCl (mW cI cJ h a forms prime o_turns o_lineT o_lineU o_kinds o_upper o_lower numbers o_q o_base o_least o_table o_rows o_lists o_listSize o_tried other o_line o_makers o_touches o_made o_kindForm o_kindTurns o_kindWays) H := by rw [← q1, ← q2, ← q3, ← q4, ← q5, ← q6, ← q7, ← q8, ← q9, ← q10, ← q11, ← q12, ← q13, ← q14, ← q15, ← q16, ← q17, ← q18, ← q19, ← q20, ← q21]; exact hP
        have hD : va_D A (mW cI cJ h a forms prime o_turns o_lineT o_lineU o_kinds o_upper o_lower numbers o_q o_base o_least o_table o_rows o_lists o_listSize o_tried other o_line o_makers o_touches o_made o_kindForm o_kindTurns o_kindWays) := by rw [← q1, ← q2, ← q3, ← q4, ← q5, ← q6, ← q7, ← q8, ← q9, ← q10, ← q11, ← q12, ← q13, ← q14, ← q15, ← q16, ← q17, ← q18, ← q19, ← q20, ← q21]; exact hD
        refine W_Qe hQ ?_
        exact W.lret hx hb hr (fun t ht hW => ⟨⟨v_26, (), rfl, q0, by rw [ht]; exact hP, va_K.moved hW.alike hK, hD⟩, hS.F ht⟩) hS.2.2 dX7_weight_38
    · have hF := if_t hF c0
      refine lv_ldc2 (v := (-100002)) hx hb hown (hlk (.constantLong RX7 257 (-100002)) (by decide +kernel)) dX7_weight_22 ?_
      obtain ⟨q0, q1, q2, q3, q4, q5, q6, q7, q8, q9, q10, q11, q12, q13, q14, q15, q16, q17, q18, q19, q20, q21⟩ := sm22 hF
      have hP : va_P (dC, dI) vwCl (mW cI cJ h a forms prime o_turns o_lineT o_lineU o_kinds o_upper o_lower numbers o_q o_base o_least o_table o_rows o_lists o_listSize o_tried other o_line o_makers o_touches o_made o_kindForm o_kindTurns o_kindWays) H := by rw [← q1, ← q2, ← q3, ← q4, ← q5, ← q6, ← q7, ← q8, ← q9, ← q10, ← q11, ← q12, ← q13, ← q14, ← q15, ← q16, ← q17, ← q18, ← q19, ← q20, ← q21]; exact hP
      have hD : va_D A (mW cI cJ h a forms prime o_turns o_lineT o_lineU o_kinds o_upper o_lower numbers o_q o_base o_least o_table o_rows o_lists o_listSize o_tried other o_line o_makers o_touches o_made o_kindForm o_kindTurns o_kindWays) := by rw [← q1, ← q2, ← q3, ← q4, ← q5, ← q6, ← q7, ← q8, ← q9, ← q10, ← q11, ← q12, ← q13, ← q14, ← q15, ← q16, ← q17, ← q18, ← q19, ← q20, ← q21]; exact hD
      refine W_Qe hQ ?_
      exact W.lret hx hb hr (fun t ht hW => ⟨⟨(-100002 : Int64), (), rfl, q0, by rw [ht]; exact hP, va_K.moved hW.alike hK, hD⟩, hS.F ht⟩) hS.2.2 dX7_weight_25
  · have hF := if_t hF c0
    refine lv_ldc2 (v := (-100001)) hx hb hown (hlk (.constantLong RX7 255 (-100001)) (by decide +kernel)) dX7_weight_8 ?_
    obtain ⟨q0, q1, q2, q3, q4, q5, q6, q7, q8, q9, q10, q11, q12, q13, q14, q15, q16, q17, q18, q19, q20, q21⟩ := sm22 hF
    have hP : va_P (dC, dI) vwCl (mW cI cJ h a forms prime o_turns o_lineT o_lineU o_kinds o_upper o_lower numbers o_q o_base o_least o_table o_rows o_lists o_listSize o_tried other o_line o_makers o_touches o_made o_kindForm o_kindTurns o_kindWays) H := by rw [← q1, ← q2, ← q3, ← q4, ← q5, ← q6, ← q7, ← q8, ← q9, ← q10, ← q11, ← q12, ← q13, ← q14, ← q15, ← q16, ← q17, ← q18, ← q19, ← q20, ← q21]; exact hP
    have hD : va_D A (mW cI cJ h a forms prime o_turns o_lineT o_lineU o_kinds o_upper o_lower numbers o_q o_base o_least o_table o_rows o_lists o_listSize o_tried other o_line o_makers o_touches o_made o_kindForm o_kindTurns o_kindWays) := by rw [← q1, ← q2, ← q3, ← q4, ← q5, ← q6, ← q7, ← q8, ← q9, ← q10, ← q11, ← q12, ← q13, ← q14, ← q15, ← q16, ← q17, ← q18, ← q19, ← q20, ← q21]; exact hD
    refine W_Qe hQ ?_
    exact W.lret hx hb hr (fun t ht hW => ⟨⟨(-100001 : Int64), (), rfl, q0, by rw [ht]; exact hP, va_K.moved hW.alike hK, hD⟩, hS.F ht⟩) hS.2.2 dX7_weight_11
def fX7_mean_L83 (kinds_8 : Int32) (k122 : (Int64) → (Int64) → (Nat → Int64) → Option (Int64 × (Int32) × (Int32) × (Int32) × (Int32) × (Int64) × (Int64) × (Nat → Int64) × (Nat → Int64) × (Nat → Int64) × (Nat → Int64) × (Nat → Int64) × (Nat → Int64) × (Nat → Int32) × (Nat → Int64) × (Nat → Int64) × (Nat → Int64) × (Nat → Int64) × (Nat → Int64) × (Nat → Int64) × (Nat → Int32) × (Nat → Int32))) (fu : Nat) (kindForm_21 : Nat → Int64) (p1 : Int32) (kindTurns_22 : Nat → Int32) : Nat → (Int32) → (Int64) → (Int64) → (Nat → Int64) → Option (Int64 × (Int32) × (Int32) × (Int32) × (Int32) × (Int64) × (Int64) × (Nat → Int64) × (Nat → Int64) × (Nat → Int64) × (Nat → Int64) × (Nat → Int64) × (Nat → Int64) × (Nat → Int32) × (Nat → Int64) × (Nat → Int64) × (Nat → Int64) × (Nat → Int64) × (Nat → Int64) × (Nat → Int64) × (Nat → Int32) × (Nat → Int32))
  | 0, _, _, _, _ => none
  | n + 1, x9_26, upper_27, lower_28, q_29 => if kinds_8 ≤ x9_26 then ((k122 upper_27 lower_28 q_29)) else (bd1 (fX7_holdKind fu q_29 kindForm_21 x9_26) (fun (q_30 : Nat → Int64) => bd1 (fX7_takenNow fu q_30 p1) (fun (r_31 : Int32) => if okI x9_26 17 then bd2 (fX7_add fu upper_27 lower_28 r_31.toInt64 (kindTurns_22 x9_26.toNatClampNeg).toInt64) (fun (upper_32 : Int64) (lower_33 : Int64) => nm (x9_26 + (1 : Int32)) (fun (x9_34 : Int32) => (fX7_mean_L83 kinds_8 k122 fu kindForm_21 p1 kindTurns_22 n x9_34 upper_32 lower_33 q_30))) else none)))
def fX7_mean (fu : Nat) (forms : Int32) (prime : Int32) (turns : Int32) (lineT : Int32) (lineU : Int32) (kinds : Int32) (upper : Int64) (lower : Int64) (numbers : Nat → Int32) (q : Nat → Int64) (base : Nat → Int64) (least : Nat → Int64) (table : Nat → Int64) (rows : Nat → Int64) (lists : Nat → Int64) (listSize : Nat → Int32) (tried : Nat → Int64) (line : Nat → Int64) (makers : Nat → Int64) (touches : Nat → Int64) (made : Nat → Int64) (kindForm : Nat → Int64) (kindTurns : Nat → Int32) (kindWays : Nat → Int32) (p0 : Int32) (p1 : Int32) (p2 : Int32) : Option (Int64 × (Int32) × (Int32) × (Int32) × (Int32) × (Int64) × (Int64) × (Nat → Int64) × (Nat → Int64) × (Nat → Int64) × (Nat → Int64) × (Nat → Int64) × (Nat → Int64) × (Nat → Int32) × (Nat → Int64) × (Nat → Int64) × (Nat → Int64) × (Nat → Int64) × (Nat → Int64) × (Nat → Int64) × (Nat → Int32) × (Nat → Int32)) :=
  bd1 (fX7_isForm forms p0) (fun (r_1 : Int32) => if r_1 = 0 then (some ((-100001 : Int64), turns, lineT, lineU, kinds, upper, lower, q, base, least, table, rows, lists, listSize, tried, line, makers, touches, made, kindForm, kindTurns, kindWays)) else (bd1 (fX7_in p1.toInt64 (0 : Int64) (100 : Int64)) (fun (r_2 : Int32) => nm (some ((-100002 : Int64), turns, lineT, lineU, kinds, upper, lower, q, base, least, table, rows, lists, listSize, tried, line, makers, touches, made, kindForm, kindTurns, kindWays)) (fun (k34 : Option (Int64 × (Int32) × (Int32) × (Int32) × (Int32) × (Int64) × (Int64) × (Nat → Int64) × (Nat → Int64) × (Nat → Int64) × (Nat → Int64) × (Nat → Int64) × (Nat → Int64) × (Nat → Int32) × (Nat → Int64) × (Nat → Int64) × (Nat → Int64) × (Nat → Int64) × (Nat → Int64) × (Nat → Int64) × (Nat → Int32) × (Nat → Int32))) => if r_2 = 0 then ((k34)) else (bd1 (fX7_in p2.toInt64 (0 : Int64) (1 : Int64)) (fun (r_3 : Int32) => if r_3 = 0 then ((k34)) else (bd20 (fX7_findKin fu prime turns lineT lineU kinds numbers q base least table rows lists listSize tried line makers touches made kindForm kindTurns kindWays p0) (fun (r_4 : Int32) (turns_5 : Int32) (lineT_6 : Int32) (lineU_7 : Int32) (kinds_8 : Int32) (q_9 : Nat → Int64) (base_10 : Nat → Int64) (least_11 : Nat → Int64) (table_12 : Nat → Int64) (rows_13 : Nat → Int64) (lists_14 : Nat → Int64) (listSize_15 : Nat → Int32) (tried_16 : Nat → Int64) (line_17 : Nat → Int64) (makers_18 : Nat → Int64) (touches_19 : Nat → Int64) (made_20 : Nat → Int64) (kindForm_21 : Nat → Int64) (kindTurns_22 : Nat → Int32) (kindWays_23 : Nat → Int32) => if 0 ≤ r_4 then (bd2 (fX7_weigh fu kinds_8 kindTurns_22) (fun (upper_24 : Int64) (lower_25 : Int64) => nm (fun (upper_35 : Int64) (lower_36 : Int64) (q_37 : Nat → Int64) => nm (upper_35 * lower_25) (fun (upper_38 : Int64) => nm (lower_36 * upper_24) (fun (lower_39 : Int64) => bd1 (fX7_common fu upper_38 lower_39) (fun (r_40 : Int64) => nm (fun (s_41 : Int64) => some (s_41, turns_5, lineT_6, lineU_7, kinds_8, upper_38, lower_39, q_37, base_10, least_11, table_12, rows_13, lists_14, listSize_15, tried_16, line_17, makers_18, touches_19, made_20, kindForm_21, kindTurns_22, kindWays_23)) (fun (k178 : (Int64) → Option (Int64 × (Int32) × (Int32) × (Int32) × (Int32) × (Int64) × (Int64) × (Nat → Int64) × (Nat → Int64) × (Nat → Int64) × (Nat → Int64) × (Nat → Int64) × (Nat → Int64) × (Nat → Int32) × (Nat → Int64) × (Nat → Int64) × (Nat → Int64) × (Nat → Int64) × (Nat → Int64) × (Nat → Int64) × (Nat → Int32) × (Nat → Int32))) => if p2 = 0 then (if ¬ r_40 = 0 then (k178 (upper_38 / r_40)) else none) else (if ¬ r_40 = 0 then (k178 (lower_39 / r_40)) else none)))))) (fun (k122 : (Int64) → (Int64) → (Nat → Int64) → Option (Int64 × (Int32) × (Int32) × (Int32) × (Int32) × (Int64) × (Int64) × (Nat → Int64) × (Nat → Int64) × (Nat → Int64) × (Nat → Int64) × (Nat → Int64) × (Nat → Int64) × (Nat → Int32) × (Nat → Int64) × (Nat → Int64) × (Nat → Int64) × (Nat → Int64) × (Nat → Int64) × (Nat → Int64) × (Nat → Int32) × (Nat → Int32))) => (fX7_mean_L83 kinds_8 k122 fu kindForm_21 p1 kindTurns_22 fu (0 : Int32) (0 : Int64) (1 : Int64) q_9)))) else (nm (r_4.toInt64) (fun (v_42 : Int64) => some (v_42, turns_5, lineT_6, lineU_7, kinds_8, upper, lower, q_9, base_10, least_11, table_12, rows_13, lists_14, listSize_15, tried_16, line_17, makers_18, touches_19, made_20, kindForm_21, kindTurns_22, kindWays_23)))))))))))
def lkX7_mean : List Cond := [.constantLong RX7 178 (100), .constantLong RX7 257 (-100002), .constantLong RX7 255 (-100001), .fieldLink RX7 240 "KinFormsModel" "upper" "J", .fieldLink RX7 244 "KinFormsModel" "lower" "J", .fieldLink RX7 221 "KinFormsModel" "kinds" "I", .fieldLink RX7 60 "KinFormsModel" "kindTurns" "[I"]
def vX7_mean : List Cond := .code yX7_mean cX7_mean 11 (some .long) :: (lkX7_mean ++ (wsX70 ++ (wsV RX7 166 RX7 yX7_isForm vX7_isForm ++ (va_wsS RX7 147 yX7_in vX7_in ++ (wsV RX7 235 RX7 yX7_findKin vX7_findKin ++ (wsV RX7 259 RX7 yX7_weigh vX7_weigh ++ (wsV RX7 227 RX7 yX7_holdKind vX7_holdKind ++ (wsV RX7 180 RX7 yX7_takenNow vX7_takenNow ++ (wsV RX7 251 RX7 yX7_add vX7_add ++ (va_wsS RX7 247 yX7_common vX7_common ++ ([])))))))))))
theorem q_X7_mean : ∀ w ∈ vX7_mean, goodWord w = true := gd_cons rfl (gd_app (by decide +kernel) (gd_app q_wsX70 (gd_app (gd_V q_X7_isForm) (gd_app (gd_S q_X7_in) (gd_app (gd_V q_X7_findKin) (gd_app (gd_V q_X7_weigh) (gd_app (gd_V q_X7_holdKind) (gd_app (gd_V q_X7_takenNow) (gd_app (gd_V q_X7_add) (gd_app (gd_S q_X7_common) gd_nil))))))))))
theorem g_X7_mean_X7_isForm : GoodIn vX7_mean (wsV RX7 166 RX7 yX7_isForm vX7_isForm) := gi_of (fun w h => List.mem_cons_of_mem _ (List.mem_append_right _ (List.mem_append_right _ (List.mem_append_left _ h)))) (gd_V q_X7_isForm)
theorem g_X7_mean_X7_in : GoodIn vX7_mean (va_wsS RX7 147 yX7_in vX7_in) := gi_of (fun w h => List.mem_cons_of_mem _ (List.mem_append_right _ (List.mem_append_right _ (List.mem_append_right _ (List.mem_append_left _ h))))) (gd_S q_X7_in)
theorem g_X7_mean_X7_findKin : GoodIn vX7_mean (wsV RX7 235 RX7 yX7_findKin vX7_findKin) := gi_of (fun w h => List.mem_cons_of_mem _ (List.mem_append_right _ (List.mem_append_right _ (List.mem_append_right _ (List.mem_append_right _ (List.mem_append_left _ h)))))) (gd_V q_X7_findKin)
theorem g_X7_mean_X7_weigh : GoodIn vX7_mean (wsV RX7 259 RX7 yX7_weigh vX7_weigh) := gi_of (fun w h => List.mem_cons_of_mem _ (List.mem_append_right _ (List.mem_append_right _ (List.mem_append_right _ (List.mem_append_right _ (List.mem_append_right _ (List.mem_append_left _ h))))))) (gd_V q_X7_weigh)
theorem g_X7_mean_X7_holdKind : GoodIn vX7_mean (wsV RX7 227 RX7 yX7_holdKind vX7_holdKind) := gi_of (fun w h => List.mem_cons_of_mem _ (List.mem_append_right _ (List.mem_append_right _ (List.mem_append_right _ (List.mem_append_right _ (List.mem_append_right _ (List.mem_append_right _ (List.mem_append_left _ h)))))))) (gd_V q_X7_holdKind)
theorem g_X7_mean_X7_takenNow : GoodIn vX7_mean (wsV RX7 180 RX7 yX7_takenNow vX7_takenNow) := gi_of (fun w h => List.mem_cons_of_mem _ (List.mem_append_right _ (List.mem_append_right _ (List.mem_append_right _ (List.mem_append_right _ (List.mem_append_right _ (List.mem_append_right _ (List.mem_append_right _ (List.mem_append_left _ h))))))))) (gd_V q_X7_takenNow)
theorem g_X7_mean_X7_add : GoodIn vX7_mean (wsV RX7 251 RX7 yX7_add vX7_add) := gi_of (fun w h => List.mem_cons_of_mem _ (List.mem_append_right _ (List.mem_append_right _ (List.mem_append_right _ (List.mem_append_right _ (List.mem_append_right _ (List.mem_append_right _ (List.mem_append_right _ (List.mem_append_right _ (List.mem_append_left _ h)))))))))) (gd_V q_X7_add)
theorem g_X7_mean_X7_common : GoodIn vX7_mean (va_wsS RX7 247 yX7_common vX7_common) := gi_of (fun w h => List.mem_cons_of_mem _ (List.mem_append_right _ (List.mem_append_right _ (List.mem_append_right _ (List.mem_append_right _ (List.mem_append_right _ (List.mem_append_right _ (List.mem_append_right _ (List.mem_append_right _ (List.mem_append_right _ (List.mem_append_left _ h))))))))))) (gd_S q_X7_common)
abbrev rmX7_mean : Room := { frames := 7, cells := 0, slots := 0, locals := 192 }
set_option maxHeartbeats 4000000 in
set_option maxRecDepth 100000 in
theorem c_X7_mean (l : Launch) (dC : Nat → ClassId) (dI : Nat → Nat → Nat) (cI : ClassId) (cJ : ClassId) (h : Nat) (a : Nat → Nat) (fu : Nat) (sz : Nat) (forms : Int32) (prime : Int32) (turns : Int32) (lineT : Int32) (lineU : Int32) (kinds : Int32) (upper : Int64) (lower : Int64) (numbers : Nat → Int32) (q : Nat → Int64) (base : Nat → Int64) (least : Nat → Int64) (table : Nat → Int64) (rows : Nat → Int64) (lists : Nat → Int64) (listSize : Nat → Int32) (tried : Nat → Int64) (other : Nat → Int64) (line : Nat → Int64) (makers : Nat → Int64) (touches : Nat → Int64) (made : Nat → Int64) (kindForm : Nat → Int64) (kindTurns : Nat → Int32) (kindWays : Nat → Int32) (p0 : Int32) (p1 : Int32) (p2 : Int32) (ro : Int64) (o_turns : Int32) (o_lineT : Int32) (o_lineU : Int32) (o_kinds : Int32) (o_upper : Int64) (o_lower : Int64) (o_q : Nat → Int64) (o_base : Nat → Int64) (o_least : Nat → Int64) (o_table : Nat → Int64) (o_rows : Nat → Int64) (o_lists : Nat → Int64) (o_listSize : Nat → Int32) (o_tried : Nat → Int64) (o_line : Nat → Int64) (o_makers : Nat → Int64) (o_touches : Nat → Int64) (o_made : Nat → Int64) (o_kindForm : Nat → Int64) (o_kindTurns : Nat → Int32) (o_kindWays : Nat → Int32) (hF : fX7_mean fu forms prime turns lineT lineU kinds upper lower numbers q base least table rows lists listSize tried line makers touches made kindForm kindTurns kindWays p0 p1 p2 = some (ro, o_turns, o_lineT, o_lineU, o_kinds, o_upper, o_lower, o_q, o_base, o_least, o_table, o_rows, o_lists, o_listSize, o_tried, o_line, o_makers, o_touches, o_made, o_kindForm, o_kindTurns, o_kindWays)) : Met l yX7_mean vX7_mean rmX7_mean (va_Pc [.ref h, .int p0, .int p1, .int p2] (mPc (dC, dI) vwCl (mW cI cJ h a forms prime turns lineT lineU kinds upper lower numbers q base least table rows lists listSize tried other line makers touches made kindForm kindTurns kindWays) [(cI, .int), (cJ, .long)] sz)) (va_Ql (fun x (_ : Unit) => x = ro) (mPo (dC, dI) vwCl (mW cI cJ h a forms prime o_turns o_lineT o_lineU o_kinds o_upper o_lower numbers o_q o_base o_least o_table o_rows o_lists o_listSize o_tried other o_line o_makers o_touches o_made o_kindForm o_kindTurns o_kindWays) [(cI, .int), (cJ, .long)] (va_A (mW cI cJ h a forms prime turns lineT lineU kinds upper lower numbers q base least table rows lists listSize tried other line makers touches made kindForm kindTurns kindWays) sz)) (va_A (mW cI cJ h a forms prime turns lineT lineU kinds upper lower numbers q base least table rows lists listSize tried other line makers touches made kindForm kindTurns kindWays) sz)) 0 0 (va_A (mW cI cJ h a forms prime turns lineT lineU kinds upper lower numbers q base least table rows lists listSize tried other line makers touches made kindForm kindTurns kindWays) sz) := by
  refine Met.ofW (cc := cX7_mean) (maxL := 11) (ret := (some .long)) (by decide) rfl ?_
  intro p e s m args below meth c s₁ B hml hv
  obtain ⟨rfl, hsz, hP, hK, hD0⟩ := hv
  have hx := B.exec
  have hb := B.bytes
  have hr := B.returns
  have hts := atoms_spec (ws := vX7_mean) B.pre
  have hlk : ∀ w ∈ lkX7_mean, w.before _ s = true := fun w h => hts w (List.mem_cons_of_mem _ (List.mem_append_left _ h))
  have hown : s.vm.findClass RX7 = some m.cls := findClass_of_methodNamed B.named
  have hlocks := B.notSynchronized
  subst hsz
  have hD := hD0.self (sz := s.heap.size)
  generalize hAe : va_A (mW cI cJ h a forms prime turns lineT lineU kinds upper lower numbers q base least table rows lists listSize tried other line makers touches made kindForm kindTurns kindWays) s.heap.size = A at hD ⊢
  have hA : ∀ q : Nat, s.heap.size ≤ q → A q := fun q h => by rw [← hAe]; exact Or.inr h
  have hS : va_S A s.heap s.heap [] := va_S.rf
  have hinX7 : ∀ w ∈ wsX70, w ∈ vX7_mean := fun w h => List.mem_cons_of_mem _ (List.mem_append_right _ (List.mem_append_left _ h))
  have hf_240 := hlk (.fieldLink RX7 240 "KinFormsModel" "upper" "J") (by decide +kernel)
  have hf_244 := hlk (.fieldLink RX7 244 "KinFormsModel" "lower" "J") (by decide +kernel)
  have hf_221 := hlk (.fieldLink RX7 221 "KinFormsModel" "kinds" "I") (by decide +kernel)
  have hf_60 := hlk (.fieldLink RX7 60 "KinFormsModel" "kindTurns" "[I") (by decide +kernel)
  have hl := lv_entry ([.ref h, .int p0, .int p1, .int p2] : List Value) (n := 11) (Nat.le_of_ble_eq_true rfl)
  rw [lg_entry_eq]
  generalize (lg_sl ([.ref h, .int p0, .int p1, .int p2] : List Value) ++ List.replicate (11 - (lg_sl ([.ref h, .int p0, .int p1, .int p2] : List Value)).length) Slot.unset).toArray = ls at hl ⊢
  have hl : lv_has ls 11 [(0, .ref h), (1, .int p0), (2, .int p1), (3, .int p2)] := hl
  unfold fX7_mean at hF
  refine W_Q (fun Q hQ => ?_)
  have hP : va_P (dC, dI) vwCl (mW cI cJ h a forms prime turns lineT lineU kinds upper lower numbers q base least table rows lists listSize tried other line makers touches made kindForm kindTurns kindWays) s.heap := hP
  refine W_HL (fun H locs eH eL => ?_)
  rw [← eH] at hP
  have hS : va_S A s.heap H locs := by rw [eH, eL]; exact hS
  refine lv_aload_n hx hb dX7_mean_0 rfl (lv_at hl 0 rfl) ?_
  refine lv_iload_n hx hb dX7_mean_1 rfl (lv_at hl 1 rfl) ?_
  obtain ⟨r_1, hc, hF⟩ := bd1_of hF
  refine rc_i (va_runV (As := [.int p0]) (rest := []) ⟨hx, hb, hml, hown, hts⟩ (c_X7_isForm l dC dI cI cJ h a forms prime turns lineT lineU kinds upper lower numbers q base least table rows lists listSize tried other line makers touches made kindForm kindTurns kindWays p0 r_1 hc) (cwV 1 hts g_X7_mean_X7_isForm rfl rfl rfl (by decide +kernel) ⟨Nat.le_of_ble_eq_true rfl, Nat.le_of_ble_eq_true rfl⟩) ⟨rPc_blind, va_recv hK hP (ci := 5) (q0 := 0) rfl rfl, rPc_at hK hP⟩ rfl rfl hl.1 rfl (lv_room (Nat.le_of_ble_eq_true rfl)) dX7_mean_2 ⟨Nat.zero_le _, Nat.zero_le _⟩) ?_
  refine lv_if_ne (tgt := 12) hx hb dX7_mean_5 (by decide) (fun c0 => ?_) (fun c0 => ?_)
  · have hF := if_f hF c0
    refine lv_iload_n hx hb dX7_mean_12 rfl (lv_at hl 2 rfl) ?_
    refine lv_i2l (v := p1.toInt64) hx hb dX7_mean_13 rfl ?_
    refine lv_lconst (v := 0) hx hb dX7_mean_14 (by decide) ?_
    refine lv_ldc2 (v := (100)) hx hb hown (hlk (.constantLong RX7 178 (100)) (by decide +kernel)) dX7_mean_15 ?_
    obtain ⟨r_2, hc, hF⟩ := bd1_of hF
    refine rc_i (va_runS (As := [.long p1.toInt64, .long (0 : Int64), .long (100 : Int64)]) (rest := []) ⟨hx, hb, hml, hown, hts⟩ (c_X7_in l p1.toInt64 (0 : Int64) (100 : Int64) r_2 hc) (va_cwS 3 hts g_X7_mean_X7_in rfl rfl rfl (by decide +kernel) ⟨Nat.le_of_ble_eq_true rfl, Nat.le_of_ble_eq_true rfl⟩) ⟨tPc_blind, tPc_at⟩ rfl rfl hl.1 rfl (lv_room (Nat.le_of_ble_eq_true rfl)) dX7_mean_18 ⟨Nat.zero_le _, Nat.zero_le _⟩) ?_
    obtain ⟨k34, e_k34, hF⟩ := nm_ex hF
    have hk34 : ∀  (H : Heap) (locs : List Loc) (ls : Array Slot), va_P (dC, dI) vwCl (mW cI cJ h a forms prime turns lineT lineU kinds upper lower numbers q base least table rows lists listSize tried other line makers touches made kindForm kindTurns kindWays) H → va_D A (mW cI cJ h a forms prime turns lineT lineU kinds upper lower numbers q base least table rows lists listSize tried other line makers touches made kindForm kindTurns kindWays) → va_S A s.heap H locs → lv_has ls 11 [] → k34 = some (ro, o_turns, o_lineT, o_lineU, o_kinds, o_upper, o_lower, o_q, o_base, o_least, o_table, o_rows, o_lists, o_listSize, o_tried, o_line, o_makers, o_touches, o_made, o_kindForm, o_kindTurns, o_kindWays) → W p l e rmX7_mean s m ([.ref h, .int p0, .int p1, .int p2] : List Value).toArray below meth c H locs 0 0 Q (F0 m 34 ls []) := by
      intro H locs ls hP hD hS hl hF
      have hF := ka0 e_k34 hF
      refine lv_ldc2 (v := (-100002)) hx hb hown (hlk (.constantLong RX7 257 (-100002)) (by decide +kernel)) dX7_mean_34 ?_
      obtain ⟨q0, q1, q2, q3, q4, q5, q6, q7, q8, q9, q10, q11, q12, q13, q14, q15, q16, q17, q18, q19, q20, q21⟩ := sm22 hF
      have hP : va_P (dC, dI) vwCl (mW cI cJ h a forms prime o_turns o_lineT o_lineU o_kinds o_upper o_lower numbers o_q o_base o_least o_table o_rows o_lists o_listSize o_tried other o_line o_makers o_touches o_made o_kindForm o_kindTurns o_kindWays) H := by rw [← q1, ← q2, ← q3, ← q4, ← q5, ← q6, ← q7, ← q8, ← q9, ← q10, ← q11, ← q12, ← q13, ← q14, ← q15, ← q16, ← q17, ← q18, ← q19, ← q20, ← q21]; exact hP
      have hD : va_D A (mW cI cJ h a forms prime o_turns o_lineT o_lineU o_kinds o_upper o_lower numbers o_q o_base o_least o_table o_rows o_lists o_listSize o_tried other o_line o_makers o_touches o_made o_kindForm o_kindTurns o_kindWays) := by rw [← q1, ← q2, ← q3, ← q4, ← q5, ← q6, ← q7, ← q8, ← q9, ← q10, ← q11, ← q12, ← q13, ← q14, ← q15, ← q16, ← q17, ← q18, ← q19, ← q20, ← q21]; exact hD
      refine W_Qe hQ ?_
      exact W.lret hx hb hr (fun t ht hW => ⟨⟨(-100002 : Int64), (), rfl, q0, by rw [ht]; exact hP, va_K.moved hW.alike hK, hD⟩, hS.F ht⟩) hS.2.2 dX7_mean_37
    clear e_k34
    refine lv_if_eq (tgt := 34) hx hb dX7_mean_21 (by decide) (fun c0 => ?_) (fun c0 => ?_)
    · have hF := if_t hF c0
      exact hk34 H locs ls hP hD hS (lv_sub hl [] rfl) hF
    · have hF := if_f hF c0
      refine lv_iload_n hx hb dX7_mean_24 rfl (lv_at hl 3 rfl) ?_
      refine lv_i2l (v := p2.toInt64) hx hb dX7_mean_25 rfl ?_
      refine lv_lconst (v := 0) hx hb dX7_mean_26 (by decide) ?_
      refine lv_lconst (v := 1) hx hb dX7_mean_27 (by decide) ?_
      obtain ⟨r_3, hc, hF⟩ := bd1_of hF
      refine rc_i (va_runS (As := [.long p2.toInt64, .long (0 : Int64), .long (1 : Int64)]) (rest := []) ⟨hx, hb, hml, hown, hts⟩ (c_X7_in l p2.toInt64 (0 : Int64) (1 : Int64) r_3 hc) (va_cwS 3 hts g_X7_mean_X7_in rfl rfl rfl (by decide +kernel) ⟨Nat.le_of_ble_eq_true rfl, Nat.le_of_ble_eq_true rfl⟩) ⟨tPc_blind, tPc_at⟩ rfl rfl hl.1 rfl (lv_room (Nat.le_of_ble_eq_true rfl)) dX7_mean_28 ⟨Nat.zero_le _, Nat.zero_le _⟩) ?_
      refine lv_if_ne (tgt := 38) hx hb dX7_mean_31 (by decide) (fun c0 => ?_) (fun c0 => ?_)
      · have hF := if_f hF c0
        refine lv_aload_n hx hb dX7_mean_38 rfl (lv_at hl 0 rfl) ?_
        refine lv_iload_n hx hb dX7_mean_39 rfl (lv_at hl 1 rfl) ?_
        obtain ⟨r_4, turns_5, lineT_6, lineU_7, kinds_8, q_9, base_10, least_11, table_12, rows_13, lists_14, listSize_15, tried_16, line_17, makers_18, touches_19, made_20, kindForm_21, kindTurns_22, kindWays_23, hc, hF⟩ := bd20_of hF
        refine mc_i (va_runV (As := [.int p0]) (rest := []) ⟨hx, hb, hml, hown, hts⟩ (c_X7_findKin l dC dI cI cJ h a fu H.size forms prime turns lineT lineU kinds upper lower numbers q base least table rows lists listSize tried other line makers touches made kindForm kindTurns kindWays p0 r_4 turns_5 lineT_6 lineU_7 kinds_8 q_9 base_10 least_11 table_12 rows_13 lists_14 listSize_15 tried_16 line_17 makers_18 touches_19 made_20 kindForm_21 kindTurns_22 kindWays_23 hc) (cwV 1 hts g_X7_mean_X7_findKin rfl rfl rfl (by decide +kernel) ⟨Nat.le_of_ble_eq_true rfl, Nat.le_of_ble_eq_true rfl⟩) ⟨mPc_blind, va_recv hK hP (ci := 5) (q0 := 0) rfl rfl, mPc_at hK hP hD⟩ rfl rfl hl.1 rfl (lv_room (Nat.le_of_ble_eq_true rfl)) dX7_mean_40 ⟨Nat.zero_le _, Nat.zero_le _⟩) hS (fr_all hD hS hA) (fun H locs hP hD hS => ?_)
        refine lv_istore (lv' := [(4, .int r_4), (0, .ref h), (1, .int p0), (2, .int p1), (3, .int p2)]) hx hb dX7_mean_43 hl (by decide) rfl (fun ls hl => ?_)
        refine lv_iload hx hb dX7_mean_45 (lv_at hl 0 rfl) ?_
        refine lv_if_ge (tgt := 54) hx hb dX7_mean_47 (by decide) (fun c0 => ?_) (fun c0 => ?_)
        · have hF := if_t hF c0
          refine lv_aload_n hx hb dX7_mean_54 rfl (lv_at hl 1 rfl) ?_
          obtain ⟨upper_24, lower_25, hc, hF⟩ := bd2_of hF
          refine mc_v (va_runV (As := []) (rest := []) ⟨hx, hb, hml, hown, hts⟩ (c_X7_weigh l dC dI cI cJ h a fu H.size forms prime turns_5 lineT_6 lineU_7 kinds_8 upper lower numbers q_9 base_10 least_11 table_12 rows_13 lists_14 listSize_15 tried_16 other line_17 makers_18 touches_19 made_20 kindForm_21 kindTurns_22 kindWays_23  upper_24 lower_25 hc) (cwV 0 hts g_X7_mean_X7_weigh rfl rfl rfl (by decide +kernel) ⟨Nat.le_of_ble_eq_true rfl, Nat.le_of_ble_eq_true rfl⟩) ⟨mPc_blind, va_recv hK hP (ci := 5) (q0 := 0) rfl rfl, mPc_at hK hP hD⟩ rfl rfl hl.1 rfl (lv_room (Nat.le_of_ble_eq_true rfl)) dX7_mean_55 ⟨Nat.zero_le _, Nat.zero_le _⟩) hS (fr_all hD hS hA) (fun H locs hP hD hS => ?_)
          refine lv_aload_n hx hb dX7_mean_58 rfl (lv_at hl 1 rfl) ?_
          refine va_get (D := (dC, dI)) (ci := 5) (v := .long upper_24) (C := RX7) (T := TX7) (N := 25) hx hb hts hinX7 hown hK hP 0 rfl rfl 23 (by decide) hf_240 (fun _ h9 => h9) rfl dX7_mean_59 ?_
          refine lv_lstore (lv' := [(5, .long upper_24), (4, .int r_4), (0, .ref h), (1, .int p0), (2, .int p1), (3, .int p2)]) hx hb dX7_mean_62 hl (by decide) rfl (fun ls hl => ?_)
          refine lv_aload_n hx hb dX7_mean_64 rfl (lv_at hl 2 rfl) ?_
          refine va_get (D := (dC, dI)) (ci := 5) (v := .long lower_25) (C := RX7) (T := TX7) (N := 25) hx hb hts hinX7 hown hK hP 0 rfl rfl 24 (by decide) hf_244 (fun _ h9 => h9) rfl dX7_mean_65 ?_
          refine lv_lstore (lv' := [(7, .long lower_25), (5, .long upper_24), (4, .int r_4), (0, .ref h), (1, .int p0), (2, .int p1), (3, .int p2)]) hx hb dX7_mean_68 hl (by decide) rfl (fun ls hl => ?_)
          refine lv_aload_n hx hb dX7_mean_70 rfl (lv_at hl 3 rfl) ?_
          refine lv_lconst (v := 0) hx hb dX7_mean_71 (by decide) ?_
          refine va_put (D := (dC, dI)) (ci := 5) (v := .long (0 : Int64)) (ty := .long) (C := RX7) (T := TX7) (N := 25) hx hb hts hinX7 tyX7 tyX7_ok nmX7 hown hK hP hD hS 0 rfl rfl 23 (by decide) hf_240 (fun _ h9 => h9) rfl (by decide +kernel) rfl rfl (Nat.le_of_ble_eq_true rfl) dX7_mean_72 (fun H locs hP hD hS => ?_)
          have hP : va_P (dC, dI) vwCl (mW cI cJ h a forms prime turns_5 lineT_6 lineU_7 kinds_8 (0 : Int64) lower_25 numbers q_9 base_10 least_11 table_12 rows_13 lists_14 listSize_15 tried_16 other line_17 makers_18 touches_19 made_20 kindForm_21 kindTurns_22 kindWays_23) H := hP
          have hD : va_D A (mW cI cJ h a forms prime turns_5 lineT_6 lineU_7 kinds_8 (0 : Int64) lower_25 numbers q_9 base_10 least_11 table_12 rows_13 lists_14 listSize_15 tried_16 other line_17 makers_18 touches_19 made_20 kindForm_21 kindTurns_22 kindWays_23) := hD
          refine lv_aload_n hx hb dX7_mean_75 rfl (lv_at hl 3 rfl) ?_
          refine lv_lconst (v := 1) hx hb dX7_mean_76 (by decide) ?_
          refine va_put (D := (dC, dI)) (ci := 5) (v := .long (1 : Int64)) (ty := .long) (C := RX7) (T := TX7) (N := 25) hx hb hts hinX7 tyX7 tyX7_ok nmX7 hown hK hP hD hS 0 rfl rfl 24 (by decide) hf_244 (fun _ h9 => h9) rfl (by decide +kernel) rfl rfl (Nat.le_of_ble_eq_true rfl) dX7_mean_77 (fun H locs hP hD hS => ?_)
          have hP : va_P (dC, dI) vwCl (mW cI cJ h a forms prime turns_5 lineT_6 lineU_7 kinds_8 (0 : Int64) (1 : Int64) numbers q_9 base_10 least_11 table_12 rows_13 lists_14 listSize_15 tried_16 other line_17 makers_18 touches_19 made_20 kindForm_21 kindTurns_22 kindWays_23) H := hP
          have hD : va_D A (mW cI cJ h a forms prime turns_5 lineT_6 lineU_7 kinds_8 (0 : Int64) (1 : Int64) numbers q_9 base_10 least_11 table_12 rows_13 lists_14 listSize_15 tried_16 other line_17 makers_18 touches_19 made_20 kindForm_21 kindTurns_22 kindWays_23) := hD
          refine lv_iconst (v := 0) hx hb dX7_mean_80 (by decide) ?_
          refine lv_istore (lv' := [(9, .int (0 : Int32)), (7, .long lower_25), (5, .long upper_24), (4, .int r_4), (0, .ref h), (1, .int p0), (2, .int p1), (3, .int p2)]) hx hb dX7_mean_81 hl (by decide) rfl (fun ls hl => ?_)
          obtain ⟨k122, e_k122, hF⟩ := nm_ex hF
          have hk122 : ∀ (upper_35 : Int64) (lower_36 : Int64) (q_37 : Nat → Int64) (H : Heap) (locs : List Loc) (ls : Array Slot), va_P (dC, dI) vwCl (mW cI cJ h a forms prime turns_5 lineT_6 lineU_7 kinds_8 upper_35 lower_36 numbers q_37 base_10 least_11 table_12 rows_13 lists_14 listSize_15 tried_16 other line_17 makers_18 touches_19 made_20 kindForm_21 kindTurns_22 kindWays_23) H → va_D A (mW cI cJ h a forms prime turns_5 lineT_6 lineU_7 kinds_8 upper_35 lower_36 numbers q_37 base_10 least_11 table_12 rows_13 lists_14 listSize_15 tried_16 other line_17 makers_18 touches_19 made_20 kindForm_21 kindTurns_22 kindWays_23) → va_S A s.heap H locs → lv_has ls 11 [(0, .ref h), (3, .int p2), (5, .long upper_24), (7, .long lower_25)] → k122 upper_35 lower_36 q_37 = some (ro, o_turns, o_lineT, o_lineU, o_kinds, o_upper, o_lower, o_q, o_base, o_least, o_table, o_rows, o_lists, o_listSize, o_tried, o_line, o_makers, o_touches, o_made, o_kindForm, o_kindTurns, o_kindWays) → W p l e rmX7_mean s m ([.ref h, .int p0, .int p1, .int p2] : List Value).toArray below meth c H locs 0 0 Q (F0 m 122 ls []) := by
            intro upper_35 lower_36 q_37 H locs ls hP hD hS hl hF
            have hF := ka3 e_k122 hF
            refine lv_aload_n hx hb dX7_mean_122 rfl (lv_at hl 0 rfl) ?_
            refine lv_dup hx hb dX7_mean_123 rfl ?_
            refine va_get (D := (dC, dI)) (ci := 5) (v := .long upper_35) (C := RX7) (T := TX7) (N := 25) hx hb hts hinX7 hown hK hP 0 rfl rfl 23 (by decide) hf_240 (fun _ h9 => h9) rfl dX7_mean_124 ?_
            refine lv_lload hx hb dX7_mean_127 (lv_at hl 3 rfl) ?_
            refine lv_lmul hx hb dX7_mean_129 ?_
            refine lv_topl (fun upper_38 e_upper_38 => ?_)
            have hF := nm_at hF e_upper_38
            refine va_put (D := (dC, dI)) (ci := 5) (v := .long upper_38) (ty := .long) (C := RX7) (T := TX7) (N := 25) hx hb hts hinX7 tyX7 tyX7_ok nmX7 hown hK hP hD hS 0 rfl rfl 23 (by decide) hf_240 (fun _ h9 => h9) rfl (by decide +kernel) rfl rfl (Nat.le_of_ble_eq_true rfl) dX7_mean_130 (fun H locs hP hD hS => ?_)
            have hP : va_P (dC, dI) vwCl (mW cI cJ h a forms prime turns_5 lineT_6 lineU_7 kinds_8 upper_38 lower_36 numbers q_37 base_10 least_11 table_12 rows_13 lists_14 listSize_15 tried_16 other line_17 makers_18 touches_19 made_20 kindForm_21 kindTurns_22 kindWays_23) H := hP
            have hD : va_D A (mW cI cJ h a forms prime turns_5 lineT_6 lineU_7 kinds_8 upper_38 lower_36 numbers q_37 base_10 least_11 table_12 rows_13 lists_14 listSize_15 tried_16 other line_17 makers_18 touches_19 made_20 kindForm_21 kindTurns_22 kindWays_23) := hD
            refine lv_aload_n hx hb dX7_mean_133 rfl (lv_at hl 0 rfl) ?_
            refine lv_dup hx hb dX7_mean_134 rfl ?_
            refine va_get (D := (dC, dI)) (ci := 5) (v := .long lower_36) (C := RX7) (T := TX7) (N := 25) hx hb hts hinX7 hown hK hP 0 rfl rfl 24 (by decide) hf_244 (fun _ h9 => h9) rfl dX7_mean_135 ?_
            refine lv_lload hx hb dX7_mean_138 (lv_at hl 2 rfl) ?_
            refine lv_lmul hx hb dX7_mean_140 ?_
            refine lv_topl (fun lower_39 e_lower_39 => ?_)
            have hF := nm_at hF e_lower_39
            refine va_put (D := (dC, dI)) (ci := 5) (v := .long lower_39) (ty := .long) (C := RX7) (T := TX7) (N := 25) hx hb hts hinX7 tyX7 tyX7_ok nmX7 hown hK hP hD hS 0 rfl rfl 24 (by decide) hf_244 (fun _ h9 => h9) rfl (by decide +kernel) rfl rfl (Nat.le_of_ble_eq_true rfl) dX7_mean_141 (fun H locs hP hD hS => ?_)
            have hP : va_P (dC, dI) vwCl (mW cI cJ h a forms prime turns_5 lineT_6 lineU_7 kinds_8 upper_38 lower_39 numbers q_37 base_10 least_11 table_12 rows_13 lists_14 listSize_15 tried_16 other line_17 makers_18 touches_19 made_20 kindForm_21 kindTurns_22 kindWays_23) H := hP
            have hD : va_D A (mW cI cJ h a forms prime turns_5 lineT_6 lineU_7 kinds_8 upper_38 lower_39 numbers q_37 base_10 least_11 table_12 rows_13 lists_14 listSize_15 tried_16 other line_17 makers_18 touches_19 made_20 kindForm_21 kindTurns_22 kindWays_23) := hD
            refine lv_aload_n hx hb dX7_mean_144 rfl (lv_at hl 0 rfl) ?_
            refine va_get (D := (dC, dI)) (ci := 5) (v := .long upper_38) (C := RX7) (T := TX7) (N := 25) hx hb hts hinX7 hown hK hP 0 rfl rfl 23 (by decide) hf_240 (fun _ h9 => h9) rfl dX7_mean_145 ?_
            refine lv_aload_n hx hb dX7_mean_148 rfl (lv_at hl 0 rfl) ?_
            refine va_get (D := (dC, dI)) (ci := 5) (v := .long lower_39) (C := RX7) (T := TX7) (N := 25) hx hb hts hinX7 hown hK hP 0 rfl rfl 24 (by decide) hf_244 (fun _ h9 => h9) rfl dX7_mean_149 ?_
            obtain ⟨r_40, hc, hF⟩ := bd1_of hF
            refine rc_l (va_runS (As := [.long upper_38, .long lower_39]) (rest := []) ⟨hx, hb, hml, hown, hts⟩ (c_X7_common l fu upper_38 lower_39 r_40 hc) (va_cwS 2 hts g_X7_mean_X7_common rfl rfl rfl (by decide +kernel) ⟨Nat.le_of_ble_eq_true rfl, Nat.le_of_ble_eq_true rfl⟩) ⟨tPc_blind, tPc_at⟩ rfl rfl hl.1 rfl (lv_room (Nat.le_of_ble_eq_true rfl)) dX7_mean_152 ⟨Nat.zero_le _, Nat.zero_le _⟩) ?_
            refine lv_lstore (lv' := [(9, .long r_40), (0, .ref h), (3, .int p2), (5, .long upper_24), (7, .long lower_25)]) hx hb dX7_mean_155 hl (by decide) rfl (fun ls hl => ?_)
            refine lv_iload_n hx hb dX7_mean_157 rfl (lv_at hl 2 rfl) ?_
            obtain ⟨k178, e_k178, hF⟩ := nm_ex hF
            have hk178 : ∀ (s_41 : Int64) (H : Heap) (locs : List Loc) (ls : Array Slot), va_P (dC, dI) vwCl (mW cI cJ h a forms prime turns_5 lineT_6 lineU_7 kinds_8 upper_38 lower_39 numbers q_37 base_10 least_11 table_12 rows_13 lists_14 listSize_15 tried_16 other line_17 makers_18 touches_19 made_20 kindForm_21 kindTurns_22 kindWays_23) H → va_D A (mW cI cJ h a forms prime turns_5 lineT_6 lineU_7 kinds_8 upper_38 lower_39 numbers q_37 base_10 least_11 table_12 rows_13 lists_14 listSize_15 tried_16 other line_17 makers_18 touches_19 made_20 kindForm_21 kindTurns_22 kindWays_23) → va_S A s.heap H locs → lv_has ls 11 [] → k178 s_41 = some (ro, o_turns, o_lineT, o_lineU, o_kinds, o_upper, o_lower, o_q, o_base, o_least, o_table, o_rows, o_lists, o_listSize, o_tried, o_line, o_makers, o_touches, o_made, o_kindForm, o_kindTurns, o_kindWays) → W p l e rmX7_mean s m ([.ref h, .int p0, .int p1, .int p2] : List Value).toArray below meth c H locs 0 0 Q (F0 m 178 ls [.long s_41]) := by
              intro s_41 H locs ls hP hD hS hl hF
              have hF := ka1 e_k178 hF
              obtain ⟨q0, q1, q2, q3, q4, q5, q6, q7, q8, q9, q10, q11, q12, q13, q14, q15, q16, q17, q18, q19, q20, q21⟩ := sm22 hF
              have hP : va_P (dC, dI) vwCl (mW cI cJ h a forms prime o_turns o_lineT o_lineU o_kinds o_upper o_lower numbers o_q o_base o_least o_table o_rows o_lists o_listSize o_tried other o_line o_makers o_touches o_made o_kindForm o_kindTurns o_kindWays) H := by rw [← q1, ← q2, ← q3, ← q4, ← q5, ← q6, ← q7, ← q8, ← q9, ← q10, ← q11, ← q12, ← q13, ← q14, ← q15, ← q16, ← q17, ← q18, ← q19, ← q20, ← q21]; exact hP
              have hD : va_D A (mW cI cJ h a forms prime o_turns o_lineT o_lineU o_kinds o_upper o_lower numbers o_q o_base o_least o_table o_rows o_lists o_listSize o_tried other o_line o_makers o_touches o_made o_kindForm o_kindTurns o_kindWays) := by rw [← q1, ← q2, ← q3, ← q4, ← q5, ← q6, ← q7, ← q8, ← q9, ← q10, ← q11, ← q12, ← q13, ← q14, ← q15, ← q16, ← q17, ← q18, ← q19, ← q20, ← q21]; exact hD
              refine W_Qe hQ ?_
              exact W.lret hx hb hr (fun t ht hW => ⟨⟨s_41, (), rfl, q0, by rw [ht]; exact hP, va_K.moved hW.alike hK, hD⟩, hS.F ht⟩) hS.2.2 dX7_mean_178
            clear e_k178
            refine lv_if_ne (tgt := 171) hx hb dX7_mean_158 (by decide) (fun c0 => ?_) (fun c0 => ?_)
            · have hF := if_f hF c0
              refine lv_aload_n hx hb dX7_mean_171 rfl (lv_at hl 1 rfl) ?_
              refine va_get (D := (dC, dI)) (ci := 5) (v := .long lower_39) (C := RX7) (T := TX7) (N := 25) hx hb hts hinX7 hown hK hP 0 rfl rfl 24 (by decide) hf_244 (fun _ h9 => h9) rfl dX7_mean_172 ?_
              refine lv_lload hx hb dX7_mean_175 (lv_at hl 0 rfl) ?_
              obtain ⟨hz, hF⟩ := ck_of hF
              refine lv_ldiv hx hb dX7_mean_177 hz ?_
              exact hk178 (lower_39 / r_40) H locs ls hP hD hS (lv_sub hl [] rfl) hF
            · have hF := if_t hF c0
              refine lv_aload_n hx hb dX7_mean_161 rfl (lv_at hl 1 rfl) ?_
              refine va_get (D := (dC, dI)) (ci := 5) (v := .long upper_38) (C := RX7) (T := TX7) (N := 25) hx hb hts hinX7 hown hK hP 0 rfl rfl 23 (by decide) hf_240 (fun _ h9 => h9) rfl dX7_mean_162 ?_
              refine lv_lload hx hb dX7_mean_165 (lv_at hl 0 rfl) ?_
              obtain ⟨hz, hF⟩ := ck_of hF
              refine lv_ldiv hx hb dX7_mean_167 hz ?_
              refine lv_goto (tgt := 178) hx hb dX7_mean_168 (by decide) ?_
              exact hk178 (upper_38 / r_40) H locs ls hP hD hS (lv_sub hl [] rfl) hF
          clear e_k122
          have hL83 : ∀ n : Nat, ∀ (x9_26 : Int32) (upper_27 : Int64) (lower_28 : Int64) (q_29 : Nat → Int64) (H : Heap) (locs : List Loc) (ls : Array Slot), va_P (dC, dI) vwCl (mW cI cJ h a forms prime turns_5 lineT_6 lineU_7 kinds_8 upper_27 lower_28 numbers q_29 base_10 least_11 table_12 rows_13 lists_14 listSize_15 tried_16 other line_17 makers_18 touches_19 made_20 kindForm_21 kindTurns_22 kindWays_23) H → va_D A (mW cI cJ h a forms prime turns_5 lineT_6 lineU_7 kinds_8 upper_27 lower_28 numbers q_29 base_10 least_11 table_12 rows_13 lists_14 listSize_15 tried_16 other line_17 makers_18 touches_19 made_20 kindForm_21 kindTurns_22 kindWays_23) → va_S A s.heap H locs → lv_has ls 11 [(0, .ref h), (2, .int p1), (3, .int p2), (5, .long upper_24), (7, .long lower_25), (9, .int x9_26)] → fX7_mean_L83 kinds_8 k122 fu kindForm_21 p1 kindTurns_22 n x9_26 upper_27 lower_28 q_29 = some (ro, o_turns, o_lineT, o_lineU, o_kinds, o_upper, o_lower, o_q, o_base, o_least, o_table, o_rows, o_lists, o_listSize, o_tried, o_line, o_makers, o_touches, o_made, o_kindForm, o_kindTurns, o_kindWays) → W p l e rmX7_mean s m ([.ref h, .int p0, .int p1, .int p2] : List Value).toArray below meth c H locs 0 0 Q (F0 m 83 ls []) := by
            intro n
            induction n with
            | zero => intro x9_26 upper_27 lower_28 q_29 H locs ls hP hD hS hl hF; rw [fX7_mean_L83] at hF; cases hF
            | succ n ih83 =>
              intro x9_26 upper_27 lower_28 q_29 H locs ls hP hD hS hl hF
              rw [fX7_mean_L83] at hF
              refine lv_iload hx hb dX7_mean_83 (lv_at hl 5 rfl) ?_
              refine lv_aload_n hx hb dX7_mean_85 rfl (lv_at hl 0 rfl) ?_
              refine va_get (D := (dC, dI)) (ci := 5) (v := .int kinds_8) (C := RX7) (T := TX7) (N := 25) hx hb hts hinX7 hown hK hP 0 rfl rfl 19 (by decide) hf_221 (fun _ h9 => h9) rfl dX7_mean_86 ?_
              refine lv_icmp_ge (tgt := 122) hx hb dX7_mean_89 (by decide) (fun c0 => ?_) (fun c0 => ?_)
              · have hF := if_t hF c0
                exact hk122 upper_27 lower_28 q_29 H locs ls hP hD hS (lv_sub hl [0, 2, 3, 4] rfl) hF
              · have hF := if_f hF c0
                refine lv_aload_n hx hb dX7_mean_92 rfl (lv_at hl 0 rfl) ?_
                refine lv_iload hx hb dX7_mean_93 (lv_at hl 5 rfl) ?_
                obtain ⟨q_30, hc, hF⟩ := bd1_of hF
                refine mc_v (va_runV (As := [.int x9_26]) (rest := []) ⟨hx, hb, hml, hown, hts⟩ (c_X7_holdKind l dC dI cI cJ h a fu H.size forms prime turns_5 lineT_6 lineU_7 kinds_8 upper_27 lower_28 numbers q_29 base_10 least_11 table_12 rows_13 lists_14 listSize_15 tried_16 other line_17 makers_18 touches_19 made_20 kindForm_21 kindTurns_22 kindWays_23 x9_26 q_30 hc) (cwV 1 hts g_X7_mean_X7_holdKind rfl rfl rfl (by decide +kernel) ⟨Nat.le_of_ble_eq_true rfl, Nat.le_of_ble_eq_true rfl⟩) ⟨mPc_blind, va_recv hK hP (ci := 5) (q0 := 0) rfl rfl, mPc_at hK hP hD⟩ rfl rfl hl.1 rfl (lv_room (Nat.le_of_ble_eq_true rfl)) dX7_mean_95 ⟨Nat.zero_le _, Nat.zero_le _⟩) hS (fr_all hD hS hA) (fun H locs hP hD hS => ?_)
                refine lv_aload_n hx hb dX7_mean_98 rfl (lv_at hl 0 rfl) ?_
                refine lv_aload_n hx hb dX7_mean_99 rfl (lv_at hl 0 rfl) ?_
                refine lv_iload_n hx hb dX7_mean_100 rfl (lv_at hl 1 rfl) ?_
                obtain ⟨r_31, hc, hF⟩ := bd1_of hF
                refine rc_i (va_runV (As := [.int p1]) (rest := [.ref h]) ⟨hx, hb, hml, hown, hts⟩ (c_X7_takenNow l dC dI cI cJ h a fu forms prime turns_5 lineT_6 lineU_7 kinds_8 upper_27 lower_28 numbers q_30 base_10 least_11 table_12 rows_13 lists_14 listSize_15 tried_16 other line_17 makers_18 touches_19 made_20 kindForm_21 kindTurns_22 kindWays_23 p1 r_31 hc) (cwV 1 hts g_X7_mean_X7_takenNow rfl rfl rfl (by decide +kernel) ⟨Nat.le_of_ble_eq_true rfl, Nat.le_of_ble_eq_true rfl⟩) ⟨rPc_blind, va_recv hK hP (ci := 5) (q0 := 0) rfl rfl, rPc_at hK hP⟩ rfl rfl hl.1 rfl (lv_room (Nat.le_of_ble_eq_true rfl)) dX7_mean_101 ⟨Nat.zero_le _, Nat.zero_le _⟩) ?_
                refine lv_i2l (v := r_31.toInt64) hx hb dX7_mean_104 rfl ?_
                refine lv_aload_n hx hb dX7_mean_105 rfl (lv_at hl 0 rfl) ?_
                refine va_get (D := (dC, dI)) (ci := 5) (v := .ref (a 16)) (C := RX7) (T := TX7) (N := 25) hx hb hts hinX7 hown hK hP 0 rfl rfl 21 (by decide) hf_60 (fun _ h9 => h9) rfl dX7_mean_106 ?_
                refine lv_iload hx hb dX7_mean_109 (lv_at hl 5 rfl) ?_
                obtain ⟨hi, hF⟩ := ck_of hF
                refine va_iald hx hb hK hP 16 0 rfl rfl hi dX7_mean_111 ?_
                refine lv_i2l (v := (kindTurns_22 x9_26.toNatClampNeg).toInt64) hx hb dX7_mean_112 rfl ?_
                obtain ⟨upper_32, lower_33, hc, hF⟩ := bd2_of hF
                refine mc_v (va_runV (As := [.long r_31.toInt64, .long (kindTurns_22 x9_26.toNatClampNeg).toInt64]) (rest := []) ⟨hx, hb, hml, hown, hts⟩ (c_X7_add l dC dI cI cJ h a fu H.size forms prime turns_5 lineT_6 lineU_7 kinds_8 upper_27 lower_28 numbers q_30 base_10 least_11 table_12 rows_13 lists_14 listSize_15 tried_16 other line_17 makers_18 touches_19 made_20 kindForm_21 kindTurns_22 kindWays_23 r_31.toInt64 (kindTurns_22 x9_26.toNatClampNeg).toInt64 upper_32 lower_33 hc) (cwV 2 hts g_X7_mean_X7_add rfl rfl rfl (by decide +kernel) ⟨Nat.le_of_ble_eq_true rfl, Nat.le_of_ble_eq_true rfl⟩) ⟨mPc_blind, va_recv hK hP (ci := 5) (q0 := 0) rfl rfl, mPc_at hK hP hD⟩ rfl rfl hl.1 rfl (lv_room (Nat.le_of_ble_eq_true rfl)) dX7_mean_113 ⟨Nat.zero_le _, Nat.zero_le _⟩) hS (fr_all hD hS hA) (fun H locs hP hD hS => ?_)
                obtain ⟨x9_34, e_x9_34, hF⟩ := nm_ex hF
                refine lv_iinc (v := x9_34) (lv' := [(9, .int x9_34), (0, .ref h), (2, .int p1), (3, .int p2), (5, .long upper_24), (7, .long lower_25)]) hx hb dX7_mean_116 hl (k := 5) rfl (by rw [e_x9_34]; rfl) (by decide) rfl (fun ls hl => ?_)
                refine lv_goto (tgt := 83) hx hb dX7_mean_119 (by decide) ?_
                exact ih83 x9_34 upper_32 lower_33 q_30 H locs ls hP hD hS (lv_sub hl [1, 2, 3, 4, 5, 0] rfl) hF
          exact hL83 fu (0 : Int32) (0 : Int64) (1 : Int64) q_9 H locs ls hP hD hS (lv_sub hl [4, 6, 7, 2, 1, 0] rfl) hF
        · have hF := if_f hF c0
          refine lv_iload hx hb dX7_mean_50 (lv_at hl 0 rfl) ?_
          refine lv_i2l (v := r_4.toInt64) hx hb dX7_mean_52 rfl ?_
          refine lv_topl (fun v_42 e_v_42 => ?_)
          have hF := nm_at hF e_v_42
          obtain ⟨q0, q1, q2, q3, q4, q5, q6, q7, q8, q9, q10, q11, q12, q13, q14, q15, q16, q17, q18, q19, q20, q21⟩ := sm22 hF
          have hP : va_P (dC, dI) vwCl (mW cI cJ h a forms prime o_turns o_lineT o_lineU o_kinds o_upper o_lower numbers o_q o_base o_least o_table o_rows o_lists o_listSize o_tried other o_line o_makers o_touches o_made o_kindForm o_kindTurns o_kindWays) H := by rw [← q1, ← q2, ← q3, ← q4, ← q5, ← q6, ← q7, ← q8, ← q9, ← q10, ← q11, ← q12, ← q13, ← q14, ← q15, ← q16, ← q17, ← q18, ← q19, ← q20, ← q21]; exact hP
          have hD : va_D A (mW cI cJ h a forms prime o_turns o_lineT o_lineU o_kinds o_upper o_lower numbers o_q o_base o_least o_table o_rows o_lists o_listSize o_tried other o_line o_makers o_touches o_made o_kindForm o_kindTurns o_kindWays) := by rw [← q1, ← q2, ← q3, ← q4, ← q5, ← q6, ← q7, ← q8, ← q9, ← q10, ← q11, ← q12, ← q13, ← q14, ← q15, ← q16, ← q17, ← q18, ← q19, ← q20, ← q21]; exact hD
          refine W_Qe hQ ?_
          exact W.lret hx hb hr (fun t ht hW => ⟨⟨v_42, (), rfl, q0, by rw [ht]; exact hP, va_K.moved hW.alike hK, hD⟩, hS.F ht⟩) hS.2.2 dX7_mean_53
      · have hF := if_t hF c0
        exact hk34 H locs ls hP hD hS (lv_sub hl [] rfl) hF
  · have hF := if_t hF c0
    refine lv_ldc2 (v := (-100001)) hx hb hown (hlk (.constantLong RX7 255 (-100001)) (by decide +kernel)) dX7_mean_8 ?_
    obtain ⟨q0, q1, q2, q3, q4, q5, q6, q7, q8, q9, q10, q11, q12, q13, q14, q15, q16, q17, q18, q19, q20, q21⟩ := sm22 hF
    have hP : va_P (dC, dI) vwCl (mW cI cJ h a forms prime o_turns o_lineT o_lineU o_kinds o_upper o_lower numbers o_q o_base o_least o_table o_rows o_lists o_listSize o_tried other o_line o_makers o_touches o_made o_kindForm o_kindTurns o_kindWays) H := by rw [← q1, ← q2, ← q3, ← q4, ← q5, ← q6, ← q7, ← q8, ← q9, ← q10, ← q11, ← q12, ← q13, ← q14, ← q15, ← q16, ← q17, ← q18, ← q19, ← q20, ← q21]; exact hP
    have hD : va_D A (mW cI cJ h a forms prime o_turns o_lineT o_lineU o_kinds o_upper o_lower numbers o_q o_base o_least o_table o_rows o_lists o_listSize o_tried other o_line o_makers o_touches o_made o_kindForm o_kindTurns o_kindWays) := by rw [← q1, ← q2, ← q3, ← q4, ← q5, ← q6, ← q7, ← q8, ← q9, ← q10, ← q11, ← q12, ← q13, ← q14, ← q15, ← q16, ← q17, ← q18, ← q19, ← q20, ← q21]; exact hD
    refine W_Qe hQ ?_
    exact W.lret hx hb hr (fun t ht hW => ⟨⟨(-100001 : Int64), (), rfl, q0, by rw [ht]; exact hP, va_K.moved hW.alike hK, hD⟩, hS.F ht⟩) hS.2.2 dX7_mean_11
