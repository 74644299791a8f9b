def fX7_valueOf (q : Nat → Int64) (p0 : Int64) (p1 : Int64) (p2 : Int64) : Option (Int64) :=
  nm ((((((((q 0) * p0) * p0) + (((q 1) * p1) * p1)) + (((q 2) * p2) * p2)) + (((q 3) * p1) * p2)) + (((q 4) * p0) * p2)) + (((q 5) * p0) * p1)) (fun (v_1 : Int64) => some v_1)
def lkX7_valueOf : List Cond := [.fieldLink RX7 17 "KinFormsModel" "q" "[J"]
def vX7_valueOf : List Cond := .code yX7_valueOf cX7_valueOf 7 (some .long) :: (lkX7_valueOf ++ (wsX70 ++ ([])))
theorem q_X7_valueOf : ∀ w ∈ vX7_valueOf, goodWord w = true := gd_cons rfl (gd_app (by decide +kernel) (gd_app q_wsX70 gd_nil))
abbrev rmX7_valueOf : Room := { frames := 0, cells := 0, slots := 0, locals := 0 }
set_option maxHeartbeats 4000000 in
set_option maxRecDepth 100000 in
theorem c_X7_valueOf (l : Launch) (dC : Nat → ClassId) (dI : Nat → Nat → Nat) (cI : ClassId) (cJ : ClassId) (h : Nat) (a : Nat → Nat) (forms : Int32) (prime : Int32) (turns : Int32) (lineT : Int32) (lineU : Int32) (kinds : Int32) (upper : Int64) (lower : Int64) (numbers : Nat → Int32) (q : Nat → Int64) (base : Nat → Int64) (least : Nat → Int64) (table : Nat → Int64) (rows : Nat → Int64) (lists : Nat → Int64) (listSize : Nat → Int32) (tried : Nat → Int64) (other : Nat → Int64) (line : Nat → Int64) (makers : Nat → Int64) (touches : Nat → Int64) (made : Nat → Int64) (kindForm : Nat → Int64) (kindTurns : Nat → Int32) (kindWays : Nat → Int32) (p0 : Int64) (p1 : Int64) (p2 : Int64) (ro : Int64) (hF : fX7_valueOf q p0 p1 p2 = some ro) : Met l yX7_valueOf vX7_valueOf rmX7_valueOf (va_Pc [.ref h, .long p0, .long p1, .long p2] (rPc (dC, dI) vwCl (mW cI cJ h a forms prime turns lineT lineU kinds upper lower numbers q base least table rows lists listSize tried other line makers touches made kindForm kindTurns kindWays) [(cI, .int), (cJ, .long)])) (vp_Sl (fun x => x = ro)) 0 0 (fun _ => False) := by
  refine Met.ofW (cc := cX7_valueOf) (maxL := 7) (ret := (some .long)) (by decide) rfl ?_
  intro p e s m args below meth c s₁ B hml hv
  obtain ⟨rfl, hP, hK⟩ := hv
  have hx := B.exec
  have hb := B.bytes
  have hr := B.returns
  have hts := atoms_spec (ws := vX7_valueOf) B.pre
  have hlk : ∀ w ∈ lkX7_valueOf, w.before _ s = true := fun w h => hts w (List.mem_cons_of_mem _ (List.mem_append_left _ h))
  have hown : s.vm.findClass RX7 = some m.cls := findClass_of_methodNamed B.named
  have hlocks := B.notSynchronized
  have hinX7 : ∀ w ∈ wsX70, w ∈ vX7_valueOf := fun w h => List.mem_cons_of_mem _ (List.mem_append_right _ (List.mem_append_left _ h))
  have hf_17 := hlk (.fieldLink RX7 17 "KinFormsModel" "q" "[J") (by decide +kernel)
  have hl := lv_entry ([.ref h, .long p0, .long p1, .long p2] : List Value) (n := 7) (Nat.le_of_ble_eq_true rfl)
  rw [lg_entry_eq]
  generalize (lg_sl ([.ref h, .long p0, .long p1, .long p2] : List Value) ++ List.replicate (7 - (lg_sl ([.ref h, .long p0, .long p1, .long p2] : List Value)).length) Slot.unset).toArray = ls at hl ⊢
  have hl : lv_has ls 7 [(0, .ref h), (1, .long p0), (3, .long p1), (5, .long p2)] := hl
  unfold fX7_valueOf at hF
  refine W_Q (fun Q hQ => ?_)
  refine lv_aload_n hx hb dX7_valueOf_0 rfl (lv_at hl 0 rfl) ?_
  refine va_get (D := (dC, dI)) (ci := 5) (v := .ref (a 2)) (C := RX7) (T := TX7) (N := 25) hx hb hts hinX7 hown hK hP 0 rfl rfl 3 (by decide) hf_17 (fun _ h9 => h9) rfl dX7_valueOf_1 ?_
  refine lv_iconst (v := 0) hx hb dX7_valueOf_4 (by decide) ?_
  refine kc_lald (j := 0) hx hb hK hP 2 1 rfl rfl (by decide) (by decide) dX7_valueOf_5 ?_
  refine lv_lload_n hx hb dX7_valueOf_6 rfl (lv_at hl 1 rfl) ?_
  refine lv_lmul hx hb dX7_valueOf_7 ?_
  refine lv_lload_n hx hb dX7_valueOf_8 rfl (lv_at hl 1 rfl) ?_
  refine lv_lmul hx hb dX7_valueOf_9 ?_
  refine lv_aload_n hx hb dX7_valueOf_10 rfl (lv_at hl 0 rfl) ?_
  refine va_get (D := (dC, dI)) (ci := 5) (v := .ref (a 2)) (C := RX7) (T := TX7) (N := 25) hx hb hts hinX7 hown hK hP 0 rfl rfl 3 (by decide) hf_17 (fun _ h9 => h9) rfl dX7_valueOf_11 ?_
  refine lv_iconst (v := 1) hx hb dX7_valueOf_14 (by decide) ?_
  refine kc_lald (j := 1) hx hb hK hP 2 1 rfl rfl (by decide) (by decide) dX7_valueOf_15 ?_
  refine lv_lload_n hx hb dX7_valueOf_16 rfl (lv_at hl 2 rfl) ?_
  refine lv_lmul hx hb dX7_valueOf_17 ?_
  refine lv_lload_n hx hb dX7_valueOf_18 rfl (lv_at hl 2 rfl) ?_
  refine lv_lmul hx hb dX7_valueOf_19 ?_
  refine lv_ladd hx hb dX7_valueOf_20 ?_
  refine lv_aload_n hx hb dX7_valueOf_21 rfl (lv_at hl 0 rfl) ?_
  refine va_get (D := (dC, dI)) (ci := 5) (v := .ref (a 2)) (C := RX7) (T := TX7) (N := 25) hx hb hts hinX7 hown hK hP 0 rfl rfl 3 (by decide) hf_17 (fun _ h9 => h9) rfl dX7_valueOf_22 ?_
  refine lv_iconst (v := 2) hx hb dX7_valueOf_25 (by decide) ?_
  refine kc_lald (j := 2) hx hb hK hP 2 1 rfl rfl (by decide) (by decide) dX7_valueOf_26 ?_
  refine lv_lload hx hb dX7_valueOf_27 (lv_at hl 3 rfl) ?_
  refine lv_lmul hx hb dX7_valueOf_29 ?_
  refine lv_lload hx hb dX7_valueOf_30 (lv_at hl 3 rfl) ?_
  refine lv_lmul hx hb dX7_valueOf_32 ?_
  refine lv_ladd hx hb dX7_valueOf_33 ?_
  refine lv_aload_n hx hb dX7_valueOf_34 rfl (lv_at hl 0 rfl) ?_
  refine va_get (D := (dC, dI)) (ci := 5) (v := .ref (a 2)) (C := RX7) (T := TX7) (N := 25) hx hb hts hinX7 hown hK hP 0 rfl rfl 3 (by decide) hf_17 (fun _ h9 => h9) rfl dX7_valueOf_35 ?_
  refine lv_iconst (v := 3) hx hb dX7_valueOf_38 (by decide) ?_
  refine kc_lald (j := 3) hx hb hK hP 2 1 rfl rfl (by decide) (by decide) dX7_valueOf_39 ?_
  refine lv_lload_n hx hb dX7_valueOf_40 rfl (lv_at hl 2 rfl) ?_
  refine lv_lmul hx hb dX7_valueOf_41 ?_
  refine lv_lload hx hb dX7_valueOf_42 (lv_at hl 3 rfl) ?_
  refine lv_lmul hx hb dX7_valueOf_44 ?_
  refine lv_ladd hx hb dX7_valueOf_45 ?_
  refine lv_aload_n hx hb dX7_valueOf_46 rfl (lv_at hl 0 rfl) ?_
  refine va_get (D := (dC, dI)) (ci := 5) (v := .ref (a 2)) (C := RX7) (T := TX7) (N := 25) hx hb hts hinX7 hown hK hP 0 rfl rfl 3 (by decide) hf_17 (fun _ h9 => h9) rfl dX7_valueOf_47 ?_
  refine lv_iconst (v := 4) hx hb dX7_valueOf_50 (by decide) ?_
  refine kc_lald (j := 4) hx hb hK hP 2 1 rfl rfl (by decide) (by decide) dX7_valueOf_51 ?_
  refine lv_lload_n hx hb dX7_valueOf_52 rfl (lv_at hl 1 rfl) ?_
  refine lv_lmul hx hb dX7_valueOf_53 ?_
  refine lv_lload hx hb dX7_valueOf_54 (lv_at hl 3 rfl) ?_
  refine lv_lmul hx hb dX7_valueOf_56 ?_
  refine lv_ladd hx hb dX7_valueOf_57 ?_
  refine lv_aload_n hx hb dX7_valueOf_58 rfl (lv_at hl 0 rfl) ?_
  refine va_get (D := (dC, dI)) (ci := 5) (v := .ref (a 2)) (C := RX7) (T := TX7) (N := 25) hx hb hts hinX7 hown hK hP 0 rfl rfl 3 (by decide) hf_17 (fun _ h9 => h9) rfl dX7_valueOf_59 ?_
  refine lv_iconst (v := 5) hx hb dX7_valueOf_62 (by decide) ?_
  refine kc_lald (j := 5) hx hb hK hP 2 1 rfl rfl (by decide) (by decide) dX7_valueOf_63 ?_
  refine lv_lload_n hx hb dX7_valueOf_64 rfl (lv_at hl 1 rfl) ?_
  refine lv_lmul hx hb dX7_valueOf_65 ?_
  refine lv_lload_n hx hb dX7_valueOf_66 rfl (lv_at hl 2 rfl) ?_
  refine lv_lmul hx hb dX7_valueOf_67 ?_
  refine lv_ladd hx hb dX7_valueOf_68 ?_
  refine lv_topl (fun v_1 e_v_1 => ?_)
  have hF := nm_at hF e_v_1
  have q0 := sm1 hF
  refine W_Qe hQ ?_
  exact W.lret hx hb hr (fun t ht hW => ⟨_, rfl, q0, ht⟩) (fun _ h9 => by cases h9) dX7_valueOf_69
def fX7_touchOf (q : Nat → Int64) (p0 : Int64) (p1 : Int64) (p2 : Int64) (p3 : Int64) (p4 : Int64) (p5 : Int64) : Option (Int64) :=
  bd1 (fX7_valueOf q (p0 + p3) (p1 + p4) (p2 + p5)) (fun (r_1 : Int64) => bd1 (fX7_valueOf q p0 p1 p2) (fun (r_2 : Int64) => bd1 (fX7_valueOf q p3 p4 p5) (fun (r_3 : Int64) => nm ((r_1 - r_2) - r_3) (fun (v_4 : Int64) => some v_4))))
def lkX7_touchOf : List Cond := []
def vX7_touchOf : List Cond := .code yX7_touchOf cX7_touchOf 13 (some .long) :: (lkX7_touchOf ++ (wsV RX7 66 RX7 yX7_valueOf vX7_valueOf ++ ([])))
theorem q_X7_touchOf : ∀ w ∈ vX7_touchOf, goodWord w = true := gd_cons rfl (gd_app (by decide +kernel) (gd_app (gd_V q_X7_valueOf) gd_nil))
theorem g_X7_touchOf_X7_valueOf : GoodIn vX7_touchOf (wsV RX7 66 RX7 yX7_valueOf vX7_valueOf) := gi_of (fun w h => List.mem_cons_of_mem _ (List.mem_append_right _ (List.mem_append_left _ h))) (gd_V q_X7_valueOf)
abbrev rmX7_touchOf : Room := { frames := 1, cells := 0, slots := 0, locals := 26 }
set_option maxHeartbeats 4000000 in
set_option maxRecDepth 100000 in
theorem c_X7_touchOf (l : Launch) (dC : Nat → ClassId) (dI : Nat → Nat → Nat) (cI : ClassId) (cJ : ClassId) (h : Nat) (a : Nat → Nat) (forms : Int32) (prime : Int32) (turns : Int32) (lineT : Int32) (lineU : Int32) (kinds : Int32) (upper : Int64) (lower : Int64) (numbers : Nat → Int32) (q : Nat → Int64) (base : Nat → Int64) (least : Nat → Int64) (table : Nat → Int64) (rows : Nat → Int64) (lists : Nat → Int64) (listSize : Nat → Int32) (tried : Nat → Int64) (other : Nat → Int64) (line : Nat → Int64) (makers : Nat → Int64) (touches : Nat → Int64) (made : Nat → Int64) (kindForm : Nat → Int64) (kindTurns : Nat → Int32) (kindWays : Nat → Int32) (p0 : Int64) (p1 : Int64) (p2 : Int64) (p3 : Int64) (p4 : Int64) (p5 : Int64) (ro : Int64) (hF : fX7_touchOf q p0 p1 p2 p3 p4 p5 = some ro) : Met l yX7_touchOf vX7_touchOf rmX7_touchOf (va_Pc [.ref h, .long p0, .long p1, .long p2, .long p3, .long p4, .long p5] (rPc (dC, dI) vwCl (mW cI cJ h a forms prime turns lineT lineU kinds upper lower numbers q base least table rows lists listSize tried other line makers touches made kindForm kindTurns kindWays) [(cI, .int), (cJ, .long)])) (vp_Sl (fun x => x = ro)) 0 0 (fun _ => False) := by
  refine Met.ofW (cc := cX7_touchOf) (maxL := 13) (ret := (some .long)) (by decide) rfl ?_
  intro p e s m args below meth c s₁ B hml hv
  obtain ⟨rfl, hP, hK⟩ := hv
  have hx := B.exec
  have hb := B.bytes
  have hr := B.returns
  have hts := atoms_spec (ws := vX7_touchOf) B.pre
  have hlk : ∀ w ∈ lkX7_touchOf, w.before _ s = true := fun w h => hts w (List.mem_cons_of_mem _ (List.mem_append_left _ h))
  have hown : s.vm.findClass RX7 = some m.cls := findClass_of_methodNamed B.named
  have hlocks := B.notSynchronized
  have hl := lv_entry ([.ref h, .long p0, .long p1, .long p2, .long p3, .long p4, .long p5] : List Value) (n := 13) (Nat.le_of_ble_eq_true rfl)
  rw [lg_entry_eq]
  generalize (lg_sl ([.ref h, .long p0, .long p1, .long p2, .long p3, .long p4, .long p5] : List Value) ++ List.replicate (13 - (lg_sl ([.ref h, .long p0, .long p1, .long p2, .long p3, .long p4, .long p5] : List Value)).length) Slot.unset).toArray = ls at hl ⊢
  have hl : lv_has ls 13 [(0, .ref h), (1, .long p0), (3, .long p1), (5, .long p2), (7, .long p3), (9, .long p4), (11, .long p5)] := hl
  unfold fX7_touchOf at hF
  refine W_Q (fun Q hQ => ?_)
  refine lv_aload_n hx hb dX7_touchOf_0 rfl (lv_at hl 0 rfl) ?_
  refine lv_lload_n hx hb dX7_touchOf_1 rfl (lv_at hl 1 rfl) ?_
  refine lv_lload hx hb dX7_touchOf_2 (lv_at hl 4 rfl) ?_
  refine lv_ladd hx hb dX7_touchOf_4 ?_
  refine lv_lload_n hx hb dX7_touchOf_5 rfl (lv_at hl 2 rfl) ?_
  refine lv_lload hx hb dX7_touchOf_6 (lv_at hl 5 rfl) ?_
  refine lv_ladd hx hb dX7_touchOf_8 ?_
  refine lv_lload hx hb dX7_touchOf_9 (lv_at hl 3 rfl) ?_
  refine lv_lload hx hb dX7_touchOf_11 (lv_at hl 6 rfl) ?_
  refine lv_ladd hx hb dX7_touchOf_13 ?_
  obtain ⟨r_1, hc, hF⟩ := bd1_of hF
  refine rc_l (va_runV (As := [.long (p0 + p3), .long (p1 + p4), .long (p2 + p5)]) (rest := []) ⟨hx, hb, hml, hown, hts⟩ (c_X7_valueOf l dC dI cI cJ h a forms prime turns lineT lineU kinds upper lower numbers q base least table rows lists listSize tried other line makers touches made kindForm kindTurns kindWays (p0 + p3) (p1 + p4) (p2 + p5) r_1 hc) (cwV 3 hts g_X7_touchOf_X7_valueOf rfl rfl rfl (by decide +kernel) ⟨Nat.le_of_ble_eq_true rfl, Nat.le_of_ble_eq_true rfl⟩) ⟨rPc_blind, va_recv hK hP (ci := 5) (q0 := 0) rfl rfl, rPc_at hK hP⟩ rfl rfl hl.1 rfl (lv_room (Nat.le_of_ble_eq_true rfl)) dX7_touchOf_14 ⟨Nat.zero_le _, Nat.zero_le _⟩) ?_
  refine lv_aload_n hx hb dX7_touchOf_17 rfl (lv_at hl 0 rfl) ?_
  refine lv_lload_n hx hb dX7_touchOf_18 rfl (lv_at hl 1 rfl) ?_
  refine lv_lload_n hx hb dX7_touchOf_19 rfl (lv_at hl 2 rfl) ?_
  refine lv_lload hx hb dX7_touchOf_20 (lv_at hl 3 rfl) ?_
  obtain ⟨r_2, hc, hF⟩ := bd1_of hF
  refine rc_l (va_runV (As := [.long p0, .long p1, .long p2]) (rest := [.long r_1]) ⟨hx, hb, hml, hown, hts⟩ (c_X7_valueOf l dC dI cI cJ h a forms prime turns lineT lineU kinds upper lower numbers q base least table rows lists listSize tried other line makers touches made kindForm kindTurns kindWays p0 p1 p2 r_2 hc) (cwV 3 hts g_X7_touchOf_X7_valueOf rfl rfl rfl (by decide +kernel) ⟨Nat.le_of_ble_eq_true rfl, Nat.le_of_ble_eq_true rfl⟩) ⟨rPc_blind, va_recv hK hP (ci := 5) (q0 := 0) rfl rfl, rPc_at hK hP⟩ rfl rfl hl.1 rfl (lv_room (Nat.le_of_ble_eq_true rfl)) dX7_touchOf_22 ⟨Nat.zero_le _, Nat.zero_le _⟩) ?_
  refine lv_lsub hx hb dX7_touchOf_25 ?_
  refine lv_aload_n hx hb dX7_touchOf_26 rfl (lv_at hl 0 rfl) ?_
  refine lv_lload hx hb dX7_touchOf_27 (lv_at hl 4 rfl) ?_
  refine lv_lload hx hb dX7_touchOf_29 (lv_at hl 5 rfl) ?_
  refine lv_lload hx hb dX7_touchOf_31 (lv_at hl 6 rfl) ?_
  obtain ⟨r_3, hc, hF⟩ := bd1_of hF
  refine rc_l (va_runV (As := [.long p3, .long p4, .long p5]) (rest := [.long (r_1 - r_2)]) ⟨hx, hb, hml, hown, hts⟩ (c_X7_valueOf l dC dI cI cJ h a forms prime turns lineT lineU kinds upper lower numbers q base least table rows lists listSize tried other line makers touches made kindForm kindTurns kindWays p3 p4 p5 r_3 hc) (cwV 3 hts g_X7_touchOf_X7_valueOf rfl rfl rfl (by decide +kernel) ⟨Nat.le_of_ble_eq_true rfl, Nat.le_of_ble_eq_true rfl⟩) ⟨rPc_blind, va_recv hK hP (ci := 5) (q0 := 0) rfl rfl, rPc_at hK hP⟩ rfl rfl hl.1 rfl (lv_room (Nat.le_of_ble_eq_true rfl)) dX7_touchOf_33 ⟨Nat.zero_le _, Nat.zero_le _⟩) ?_
  refine lv_lsub hx hb dX7_touchOf_36 ?_
  refine lv_topl (fun v_4 e_v_4 => ?_)
  have hF := nm_at hF e_v_4
  have q0 := sm1 hF
  refine W_Qe hQ ?_
  exact W.lret hx hb hr (fun t ht hW => ⟨_, rfl, q0, ht⟩) (fun _ h9 => by cases h9) dX7_touchOf_37
def fX7_disc (q : Nat → Int64)  : Option (Int64) :=
  nm ((((((((4 : Int64) * (q 0)) * (q 1)) * (q 2)) + (((q 3) * (q 4)) * (q 5))) - (((q 0) * (q 3)) * (q 3))) - (((q 1) * (q 4)) * (q 4))) - (((q 2) * (q 5)) * (q 5))) (fun (v_1 : Int64) => some v_1)
def lkX7_disc : List Cond := [.constantLong RX7 70 (4), .fieldLink RX7 17 "KinFormsModel" "q" "[J"]
def vX7_disc : List Cond := .code yX7_disc cX7_disc 1 (some .long) :: (lkX7_disc ++ (wsX70 ++ ([])))
theorem q_X7_disc : ∀ w ∈ vX7_disc, goodWord w = true := gd_cons rfl (gd_app (by decide +kernel) (gd_app q_wsX70 gd_nil))
abbrev rmX7_disc : Room := { frames := 0, cells := 0, slots := 0, locals := 0 }
set_option maxHeartbeats 4000000 in
set_option maxRecDepth 100000 in
theorem c_X7_disc (l : Launch) (dC : Nat → ClassId) (dI : Nat → Nat → Nat) (cI : ClassId) (cJ : ClassId) (h : Nat) (a : Nat → Nat) (forms : Int32) (prime : Int32) (turns : Int32) (lineT : Int32) (lineU : Int32) (kinds : Int32) (upper : Int64) (lower : Int64) (numbers : Nat → Int32) (q : Nat → Int64) (base : Nat → Int64) (least : Nat → Int64) (table : Nat → Int64) (rows : Nat → Int64) (lists : Nat → Int64) (listSize : Nat → Int32) (tried : Nat → Int64) (other : Nat → Int64) (line : Nat → Int64) (makers : Nat → Int64) (touches : Nat → Int64) (made : Nat → Int64) (kindForm : Nat → Int64) (kindTurns : Nat → Int32) (kindWays : Nat → Int32)  (ro : Int64) (hF : fX7_disc q = some ro) : Met l yX7_disc vX7_disc rmX7_disc (va_Pc [.ref h] (rPc (dC, dI) vwCl (mW cI cJ h a forms prime turns lineT lineU kinds upper lower numbers q base least table rows lists listSize tried other line makers touches made kindForm kindTurns kindWays) [(cI, .int), (cJ, .long)])) (vp_Sl (fun x => x = ro)) 0 0 (fun _ => False) := by
  refine Met.ofW (cc := cX7_disc) (maxL := 1) (ret := (some .long)) (by decide) rfl ?_
  intro p e s m args below meth c s₁ B hml hv
  obtain ⟨rfl, hP, hK⟩ := hv
  have hx := B.exec
  have hb := B.bytes
  have hr := B.returns
  have hts := atoms_spec (ws := vX7_disc) B.pre
  have hlk : ∀ w ∈ lkX7_disc, w.before _ s = true := fun w h => hts w (List.mem_cons_of_mem _ (List.mem_append_left _ h))
  have hown : s.vm.findClass RX7 = some m.cls := findClass_of_methodNamed B.named
  have hlocks := B.notSynchronized
  have hinX7 : ∀ w ∈ wsX70, w ∈ vX7_disc := fun w h => List.mem_cons_of_mem _ (List.mem_append_right _ (List.mem_append_left _ h))
  have hf_17 := hlk (.fieldLink RX7 17 "KinFormsModel" "q" "[J") (by decide +kernel)
  have hl := lv_entry ([.ref h] : List Value) (n := 1) (Nat.le_of_ble_eq_true rfl)
  rw [lg_entry_eq]
  generalize (lg_sl ([.ref h] : List Value) ++ List.replicate (1 - (lg_sl ([.ref h] : List Value)).length) Slot.unset).toArray = ls at hl ⊢
  have hl : lv_has ls 1 [(0, .ref h)] := hl
  unfold fX7_disc at hF
  refine W_Q (fun Q hQ => ?_)
  refine lv_ldc2 (v := (4)) hx hb hown (hlk (.constantLong RX7 70 (4)) (by decide +kernel)) dX7_disc_0 ?_
  refine lv_aload_n hx hb dX7_disc_3 rfl (lv_at hl 0 rfl) ?_
  refine va_get (D := (dC, dI)) (ci := 5) (v := .ref (a 2)) (C := RX7) (T := TX7) (N := 25) hx hb hts hinX7 hown hK hP 0 rfl rfl 3 (by decide) hf_17 (fun _ h9 => h9) rfl dX7_disc_4 ?_
  refine lv_iconst (v := 0) hx hb dX7_disc_7 (by decide) ?_
  refine kc_lald (j := 0) hx hb hK hP 2 1 rfl rfl (by decide) (by decide) dX7_disc_8 ?_
  refine lv_lmul hx hb dX7_disc_9 ?_
  refine lv_aload_n hx hb dX7_disc_10 rfl (lv_at hl 0 rfl) ?_
  refine va_get (D := (dC, dI)) (ci := 5) (v := .ref (a 2)) (C := RX7) (T := TX7) (N := 25) hx hb hts hinX7 hown hK hP 0 rfl rfl 3 (by decide) hf_17 (fun _ h9 => h9) rfl dX7_disc_11 ?_
  refine lv_iconst (v := 1) hx hb dX7_disc_14 (by decide) ?_
  refine kc_lald (j := 1) hx hb hK hP 2 1 rfl rfl (by decide) (by decide) dX7_disc_15 ?_
  refine lv_lmul hx hb dX7_disc_16 ?_
  refine lv_aload_n hx hb dX7_disc_17 rfl (lv_at hl 0 rfl) ?_
  refine va_get (D := (dC, dI)) (ci := 5) (v := .ref (a 2)) (C := RX7) (T := TX7) (N := 25) hx hb hts hinX7 hown hK hP 0 rfl rfl 3 (by decide) hf_17 (fun _ h9 => h9) rfl dX7_disc_18 ?_
  refine lv_iconst (v := 2) hx hb dX7_disc_21 (by decide) ?_
  refine kc_lald (j := 2) hx hb hK hP 2 1 rfl rfl (by decide) (by decide) dX7_disc_22 ?_
  refine lv_lmul hx hb dX7_disc_23 ?_
  refine lv_aload_n hx hb dX7_disc_24 rfl (lv_at hl 0 rfl) ?_
  refine va_get (D := (dC, dI)) (ci := 5) (v := .ref (a 2)) (C := RX7) (T := TX7) (N := 25) hx hb hts hinX7 hown hK hP 0 rfl rfl 3 (by decide) hf_17 (fun _ h9 => h9) rfl dX7_disc_25 ?_
  refine lv_iconst (v := 3) hx hb dX7_disc_28 (by decide) ?_
  refine kc_lald (j := 3) hx hb hK hP 2 1 rfl rfl (by decide) (by decide) dX7_disc_29 ?_
  refine lv_aload_n hx hb dX7_disc_30 rfl (lv_at hl 0 rfl) ?_
  refine va_get (D := (dC, dI)) (ci := 5) (v := .ref (a 2)) (C := RX7) (T := TX7) (N := 25) hx hb hts hinX7 hown hK hP 0 rfl rfl 3 (by decide) hf_17 (fun _ h9 => h9) rfl dX7_disc_31 ?_
  refine lv_iconst (v := 4) hx hb dX7_disc_34 (by decide) ?_
  refine kc_lald (j := 4) hx hb hK hP 2 1 rfl rfl (by decide) (by decide) dX7_disc_35 ?_
  refine lv_lmul hx hb dX7_disc_36 ?_
  refine lv_aload_n hx hb dX7_disc_37 rfl (lv_at hl 0 rfl) ?_
  refine va_get (D := (dC, dI)) (ci := 5) (v := .ref (a 2)) (C := RX7) (T := TX7) (N := 25) hx hb hts hinX7 hown hK hP 0 rfl rfl 3 (by decide) hf_17 (fun _ h9 => h9) rfl dX7_disc_38 ?_
  refine lv_iconst (v := 5) hx hb dX7_disc_41 (by decide) ?_
  refine kc_lald (j := 5) hx hb hK hP 2 1 rfl rfl (by decide) (by decide) dX7_disc_42 ?_
  refine lv_lmul hx hb dX7_disc_43 ?_
  refine lv_ladd hx hb dX7_disc_44 ?_
  refine lv_aload_n hx hb dX7_disc_45 rfl (lv_at hl 0 rfl) ?_
  refine va_get (D := (dC, dI)) (ci := 5) (v := .ref (a 2)) (C := RX7) (T := TX7) (N := 25) hx hb hts hinX7 hown hK hP 0 rfl rfl 3 (by decide) hf_17 (fun _ h9 => h9) rfl dX7_disc_46 ?_
  refine lv_iconst (v := 0) hx hb dX7_disc_49 (by decide) ?_
  refine kc_lald (j := 0) hx hb hK hP 2 1 rfl rfl (by decide) (by decide) dX7_disc_50 ?_
  refine lv_aload_n hx hb dX7_disc_51 rfl (lv_at hl 0 rfl) ?_
  refine va_get (D := (dC, dI)) (ci := 5) (v := .ref (a 2)) (C := RX7) (T := TX7) (N := 25) hx hb hts hinX7 hown hK hP 0 rfl rfl 3 (by decide) hf_17 (fun _ h9 => h9) rfl dX7_disc_52 ?_
  refine lv_iconst (v := 3) hx hb dX7_disc_55 (by decide) ?_
  refine kc_lald (j := 3) hx hb hK hP 2 1 rfl rfl (by decide) (by decide) dX7_disc_56 ?_
  refine lv_lmul hx hb dX7_disc_57 ?_
  refine lv_aload_n hx hb dX7_disc_58 rfl (lv_at hl 0 rfl) ?_
  refine va_get (D := (dC, dI)) (ci := 5) (v := .ref (a 2)) (C := RX7) (T := TX7) (N := 25) hx hb hts hinX7 hown hK hP 0 rfl rfl 3 (by decide) hf_17 (fun _ h9 => h9) rfl dX7_disc_59 ?_
  refine lv_iconst (v := 3) hx hb dX7_disc_62 (by decide) ?_
  refine kc_lald (j := 3) hx hb hK hP 2 1 rfl rfl (by decide) (by decide) dX7_disc_63 ?_
  refine lv_lmul hx hb dX7_disc_64 ?_
  refine lv_lsub hx hb dX7_disc_65 ?_
  refine lv_aload_n hx hb dX7_disc_66 rfl (lv_at hl 0 rfl) ?_
  refine va_get (D := (dC, dI)) (ci := 5) (v := .ref (a 2)) (C := RX7) (T := TX7) (N := 25) hx hb hts hinX7 hown hK hP 0 rfl rfl 3 (by decide) hf_17 (fun _ h9 => h9) rfl dX7_disc_67 ?_
  refine lv_iconst (v := 1) hx hb dX7_disc_70 (by decide) ?_
  refine kc_lald (j := 1) hx hb hK hP 2 1 rfl rfl (by decide) (by decide) dX7_disc_71 ?_
  refine lv_aload_n hx hb dX7_disc_72 rfl (lv_at hl 0 rfl) ?_
  refine va_get (D := (dC, dI)) (ci := 5) (v := .ref (a 2)) (C := RX7) (T := TX7) (N := 25) hx hb hts hinX7 hown hK hP 0 rfl rfl 3 (by decide) hf_17 (fun _ h9 => h9) rfl dX7_disc_73 ?_
  refine lv_iconst (v := 4) hx hb dX7_disc_76 (by decide) ?_
  refine kc_lald (j := 4) hx hb hK hP 2 1 rfl rfl (by decide) (by decide) dX7_disc_77 ?_
  refine lv_lmul hx hb dX7_disc_78 ?_
  refine lv_aload_n hx hb dX7_disc_79 rfl (lv_at hl 0 rfl) ?_
  refine va_get (D := (dC, dI)) (ci := 5) (v := .ref (a 2)) (C := RX7) (T := TX7) (N := 25) hx hb hts hinX7 hown hK hP 0 rfl rfl 3 (by decide) hf_17 (fun _ h9 => h9) rfl dX7_disc_80 ?_
  refine lv_iconst (v := 4) hx hb dX7_disc_83 (by decide) ?_
  refine kc_lald (j := 4) hx hb hK hP 2 1 rfl rfl (by decide) (by decide) dX7_disc_84 ?_
  refine lv_lmul hx hb dX7_disc_85 ?_
  refine lv_lsub hx hb dX7_disc_86 ?_
  refine lv_aload_n hx hb dX7_disc_87 rfl (lv_at hl 0 rfl) ?_
  refine va_get (D := (dC, dI)) (ci := 5) (v := .ref (a 2)) (C := RX7) (T := TX7) (N := 25) hx hb hts hinX7 hown hK hP 0 rfl rfl 3 (by decide) hf_17 (fun _ h9 => h9) rfl dX7_disc_88 ?_
  refine lv_iconst (v := 2) hx hb dX7_disc_91 (by decide) ?_
  refine kc_lald (j := 2) hx hb hK hP 2 1 rfl rfl (by decide) (by decide) dX7_disc_92 ?_
  refine lv_aload_n hx hb dX7_disc_93 rfl (lv_at hl 0 rfl) ?_
  refine va_get (D := (dC, dI)) (ci := 5) (v := .ref (a 2)) (C := RX7) (T := TX7) (N := 25) hx hb hts hinX7 hown hK hP 0 rfl rfl 3 (by decide) hf_17 (fun _ h9 => h9) rfl dX7_disc_94 ?_
  refine lv_iconst (v := 5) hx hb dX7_disc_97 (by decide) ?_
  refine kc_lald (j := 5) hx hb hK hP 2 1 rfl rfl (by decide) (by decide) dX7_disc_98 ?_
  refine lv_lmul hx hb dX7_disc_99 ?_
  refine lv_aload_n hx hb dX7_disc_100 rfl (lv_at hl 0 rfl) ?_
  refine va_get (D := (dC, dI)) (ci := 5) (v := .ref (a 2)) (C := RX7) (T := TX7) (N := 25) hx hb hts hinX7 hown hK hP 0 rfl rfl 3 (by decide) hf_17 (fun _ h9 => h9) rfl dX7_disc_101 ?_
  refine lv_iconst (v := 5) hx hb dX7_disc_104 (by decide) ?_
  refine kc_lald (j := 5) hx hb hK hP 2 1 rfl rfl (by decide) (by decide) dX7_disc_105 ?_
  refine lv_lmul hx hb dX7_disc_106 ?_
  refine lv_lsub hx hb dX7_disc_107 ?_
  refine lv_topl (fun v_1 e_v_1 => ?_)
  have hF := nm_at hF e_v_1
  have q0 := sm1 hF
  refine W_Qe hQ ?_
  exact W.lret hx hb hr (fun t ht hW => ⟨_, rfl, q0, ht⟩) (fun _ h9 => by cases h9) dX7_disc_108
def fX7_hold_L2 (p0 : Int32) (numbers : Nat → Int32) : Nat → (Int32) → (Nat → Int64) → Option ((Nat → Int64))
  | 0, _, _ => none
  | n + 1, x2_1, q_2 => if (6 : Int32) ≤ x2_1 then (some q_2) else (nm (((6 : Int32) * p0) + x2_1) (fun (v_3 : Int32) => if okI v_3 72 then if okI x2_1 6 then nm (vp_updL q_2 x2_1.toNatClampNeg (numbers v_3.toNatClampNeg).toInt64) (fun (q_4 : Nat → Int64) => nm (x2_1 + (1 : Int32)) (fun (x2_5 : Int32) => (fX7_hold_L2 p0 numbers n x2_5 q_4))) else none else none))
def fX7_hold (fu : Nat) (numbers : Nat → Int32) (q : Nat → Int64) (p0 : Int32) : Option ((Nat → Int64)) :=
  (fX7_hold_L2 p0 numbers fu (0 : Int32) q)
def lkX7_hold : List Cond := [.fieldLink RX7 17 "KinFormsModel" "q" "[J", .fieldLink RX7 7 "KinFormsModel" "numbers" "[I"]
def vX7_hold : List Cond := .code yX7_hold cX7_hold 3 none :: (lkX7_hold ++ (wsX70 ++ ([])))
theorem q_X7_hold : ∀ w ∈ vX7_hold, goodWord w = true := gd_cons rfl (gd_app (by decide +kernel) (gd_app q_wsX70 gd_nil))
abbrev rmX7_hold : Room := { frames := 0, cells := 0, slots := 0, locals := 0 }
set_option maxHeartbeats 4000000 in
set_option maxRecDepth 100000 in
theorem c_X7_hold (l : Launch) (dC : Nat → ClassId) (dI : Nat → Nat → Nat) (cI : ClassId) (cJ : ClassId) (h : Nat) (a : Nat → Nat) (fu : Nat) (sz : Nat) (forms : Int32) (prime : Int32) (turns : Int32) (lineT : Int32) (lineU : Int32) (kinds : Int32) (upper : Int64) (lower : Int64) (numbers : Nat → Int32) (q : Nat → Int64) (base : Nat → Int64) (least : Nat → Int64) (table : Nat → Int64) (rows : Nat → Int64) (lists : Nat → Int64) (listSize : Nat → Int32) (tried : Nat → Int64) (other : Nat → Int64) (line : Nat → Int64) (makers : Nat → Int64) (touches : Nat → Int64) (made : Nat → Int64) (kindForm : Nat → Int64) (kindTurns : Nat → Int32) (kindWays : Nat → Int32) (p0 : Int32) (o_q : Nat → Int64) (hF : fX7_hold fu numbers q p0 = some o_q) : Met l yX7_hold vX7_hold rmX7_hold (va_Pc [.ref h, .int p0] (mPc (dC, dI) vwCl (mW cI cJ h a forms prime turns lineT lineU kinds upper lower numbers q base least table rows lists listSize tried other line makers touches made kindForm kindTurns kindWays) [(cI, .int), (cJ, .long)] sz)) (va_Qv (fun (_ : Unit) => True) (mPo (dC, dI) vwCl (mW cI cJ h a forms prime turns lineT lineU kinds upper lower numbers o_q base least table rows lists listSize tried other line makers touches made kindForm kindTurns kindWays) [(cI, .int), (cJ, .long)] (va_A (mW cI cJ h a forms prime turns lineT lineU kinds upper lower numbers q base least table rows lists listSize tried other line makers touches made kindForm kindTurns kindWays) sz)) (va_A (mW cI cJ h a forms prime turns lineT lineU kinds upper lower numbers q base least table rows lists listSize tried other line makers touches made kindForm kindTurns kindWays) sz)) 0 0 (va_A (mW cI cJ h a forms prime turns lineT lineU kinds upper lower numbers q base least table rows lists listSize tried other line makers touches made kindForm kindTurns kindWays) sz) := by
  refine Met.ofW (cc := cX7_hold) (maxL := 3) (ret := none) (by decide) rfl ?_
  intro p e s m args below meth c s₁ B hml hv
  obtain ⟨rfl, hsz, hP, hK, hD0⟩ := hv
  have hx := B.exec
  have hb := B.bytes
  have hr := B.returns
  have hts := atoms_spec (ws := vX7_hold) B.pre
  have hlk : ∀ w ∈ lkX7_hold, w.before _ s = true := fun w h => hts w (List.mem_cons_of_mem _ (List.mem_append_left _ h))
  have hown : s.vm.findClass RX7 = some m.cls := findClass_of_methodNamed B.named
  have hlocks := B.notSynchronized
  subst hsz
  have hD := hD0.self (sz := s.heap.size)
  generalize hAe : va_A (mW cI cJ h a forms prime turns lineT lineU kinds upper lower numbers q base least table rows lists listSize tried other line makers touches made kindForm kindTurns kindWays) s.heap.size = A at hD ⊢
  have hA : ∀ q : Nat, s.heap.size ≤ q → A q := fun q h => by rw [← hAe]; exact Or.inr h
  have hS : va_S A s.heap s.heap [] := va_S.rf
  have hinX7 : ∀ w ∈ wsX70, w ∈ vX7_hold := fun w h => List.mem_cons_of_mem _ (List.mem_append_right _ (List.mem_append_left _ h))
  have hf_17 := hlk (.fieldLink RX7 17 "KinFormsModel" "q" "[J") (by decide +kernel)
  have hf_7 := hlk (.fieldLink RX7 7 "KinFormsModel" "numbers" "[I") (by decide +kernel)
  have hl := lv_entry ([.ref h, .int p0] : List Value) (n := 3) (Nat.le_of_ble_eq_true rfl)
  rw [lg_entry_eq]
  generalize (lg_sl ([.ref h, .int p0] : List Value) ++ List.replicate (3 - (lg_sl ([.ref h, .int p0] : List Value)).length) Slot.unset).toArray = ls at hl ⊢
  have hl : lv_has ls 3 [(0, .ref h), (1, .int p0)] := hl
  unfold fX7_hold at hF
  refine W_Q (fun Q hQ => ?_)
  have hP : va_P (dC, dI) vwCl (mW cI cJ h a forms prime turns lineT lineU kinds upper lower numbers q base least table rows lists listSize tried other line makers touches made kindForm kindTurns kindWays) s.heap := hP
  refine W_HL (fun H locs eH eL => ?_)
  rw [← eH] at hP
  have hS : va_S A s.heap H locs := by rw [eH, eL]; exact hS
  refine lv_iconst (v := 0) hx hb dX7_hold_0 (by decide) ?_
  refine lv_istore_n (lv' := [(2, .int (0 : Int32)), (0, .ref h), (1, .int p0)]) hx hb dX7_hold_1 rfl hl (by decide) rfl (fun ls hl => ?_)
  have hL2 : ∀ n : Nat, ∀ (x2_1 : Int32) (q_2 : Nat → Int64) (H : Heap) (locs : List Loc) (ls : Array Slot), va_P (dC, dI) vwCl (mW cI cJ h a forms prime turns lineT lineU kinds upper lower numbers q_2 base least table rows lists listSize tried other line makers touches made kindForm kindTurns kindWays) H → va_D A (mW cI cJ h a forms prime turns lineT lineU kinds upper lower numbers q_2 base least table rows lists listSize tried other line makers touches made kindForm kindTurns kindWays) → va_S A s.heap H locs → lv_has ls 3 [(0, .ref h), (1, .int p0), (2, .int x2_1)] → fX7_hold_L2 p0 numbers n x2_1 q_2 = some o_q → W p l e rmX7_hold s m ([.ref h, .int p0] : List Value).toArray below meth c H locs 0 0 Q (F0 m 2 ls []) := by
    intro n
    induction n with
    | zero => intro x2_1 q_2 H locs ls hP hD hS hl hF; rw [fX7_hold_L2] at hF; cases hF
    | succ n ih2 =>
      intro x2_1 q_2 H locs ls hP hD hS hl hF
      rw [fX7_hold_L2] at hF
      refine lv_iload_n hx hb dX7_hold_2 rfl (lv_at hl 2 rfl) ?_
      refine lv_bipush (v := (6)) hx hb dX7_hold_3 (by decide) ?_
      refine lv_icmp_ge (tgt := 32) hx hb dX7_hold_5 (by decide) (fun c0 => ?_) (fun c0 => ?_)
      · have hF := if_t hF c0
        have q0 := sm1 hF
        have hP : va_P (dC, dI) vwCl (mW cI cJ h a forms prime turns lineT lineU kinds upper lower numbers o_q base least table rows lists listSize tried other line makers touches made kindForm kindTurns kindWays) H := by rw [← q0]; exact hP
        have hD : va_D A (mW cI cJ h a forms prime turns lineT lineU kinds upper lower numbers o_q base least table rows lists listSize tried other line makers touches made kindForm kindTurns kindWays) := by rw [← q0]; exact hD
        refine W_Qe hQ ?_
        exact W.vret hx hb hr (fun t ht hW => ⟨⟨(), rfl, trivial, by rw [ht]; exact hP, va_K.moved hW.alike hK, hD⟩, hS.F ht⟩) hS.2.2 dX7_hold_32
      · have hF := if_f hF c0
        refine lv_aload_n hx hb dX7_hold_8 rfl (lv_at hl 0 rfl) ?_
        refine va_get (D := (dC, dI)) (ci := 5) (v := .ref (a 2)) (C := RX7) (T := TX7) (N := 25) hx hb hts hinX7 hown hK hP 0 rfl rfl 3 (by decide) hf_17 (fun _ h9 => h9) rfl dX7_hold_9 ?_
        refine lv_iload_n hx hb dX7_hold_12 rfl (lv_at hl 2 rfl) ?_
        refine lv_aload_n hx hb dX7_hold_13 rfl (lv_at hl 0 rfl) ?_
        refine va_get (D := (dC, dI)) (ci := 5) (v := .ref (a 1)) (C := RX7) (T := TX7) (N := 25) hx hb hts hinX7 hown hK hP 0 rfl rfl 1 (by decide) hf_7 (fun _ h9 => h9) rfl dX7_hold_14 ?_
        refine lv_bipush (v := (6)) hx hb dX7_hold_17 (by decide) ?_
        refine lv_iload_n hx hb dX7_hold_19 rfl (lv_at hl 1 rfl) ?_
        refine lv_imul hx hb dX7_hold_20 ?_
        refine lv_iload_n hx hb dX7_hold_21 rfl (lv_at hl 2 rfl) ?_
        refine lv_iadd hx hb dX7_hold_22 ?_
        refine lv_topi (fun v_3 e_v_3 => ?_)
        have hF := nm_at hF e_v_3
        obtain ⟨hi, hF⟩ := ck_of hF
        refine va_iald hx hb hK hP 1 0 rfl rfl hi dX7_hold_23 ?_
        refine lv_i2l (v := (numbers v_3.toNatClampNeg).toInt64) hx hb dX7_hold_24 rfl ?_
        obtain ⟨hi, hF⟩ := ck_of hF
        obtain ⟨q_4, e_q_4, hF⟩ := nm_ex hF
        refine kc_last (j := x2_1.toNatClampNeg) (g := q_4) hx hb hK hP hD hS 2 1 rfl rfl rfl hi dX7_hold_25 e_q_4 (fun H locs hP hD hS => ?_)
        have hP : va_P (dC, dI) vwCl (mW cI cJ h a forms prime turns lineT lineU kinds upper lower numbers q_4 base least table rows lists listSize tried other line makers touches made kindForm kindTurns kindWays) H := hP
        have hD : va_D A (mW cI cJ h a forms prime turns lineT lineU kinds upper lower numbers q_4 base least table rows lists listSize tried other line makers touches made kindForm kindTurns kindWays) := hD
        obtain ⟨x2_5, e_x2_5, hF⟩ := nm_ex hF
        refine lv_iinc (v := x2_5) (lv' := [(2, .int x2_5), (0, .ref h), (1, .int p0)]) hx hb dX7_hold_26 hl (k := 2) rfl (by rw [e_x2_5]; rfl) (by decide) rfl (fun ls hl => ?_)
        refine lv_goto (tgt := 2) hx hb dX7_hold_29 (by decide) ?_
        exact ih2 x2_5 q_4 H locs ls hP hD hS (lv_sub hl [1, 2, 0] rfl) hF
  exact hL2 fu (0 : Int32) q H locs ls hP hD hS (lv_sub hl [1, 2, 0] rfl) hF
def fX7_reach (fu : Nat) (q : Nat → Int64) (p0 : Int32) (p1 : Int64) : Option (Int64) :=
  nm (fun (s_1 : Int64) => bd1 (fX7_disc q) (fun (r_2 : Int64) => if ¬ r_2 = 0 then bd1 (fX7_root fu ((p1 * s_1) / r_2)) (fun (r_3 : Int64) => some r_3) else none)) (fun (k108 : (Int64) → Option (Int64)) => if p0 = 0 then ((k108 ((((4 : Int64) * (q 1)) * (q 2)) - ((q 3) * (q 3))))) else (if p0 = (1 : Int32) then ((k108 ((((4 : Int64) * (q 0)) * (q 2)) - ((q 4) * (q 4))))) else ((k108 ((((4 : Int64) * (q 0)) * (q 1)) - ((q 5) * (q 5)))))))
def lkX7_reach : List Cond := [.constantLong RX7 70 (4), .fieldLink RX7 17 "KinFormsModel" "q" "[J"]
def vX7_reach : List Cond := .code yX7_reach cX7_reach 6 (some .long) :: (lkX7_reach ++ (wsX70 ++ (wsV RX7 74 RX7 yX7_disc vX7_disc ++ (va_wsS RX7 78 yX7_root vX7_root ++ ([])))))
theorem q_X7_reach : ∀ w ∈ vX7_reach, goodWord w = true := gd_cons rfl (gd_app (by decide +kernel) (gd_app q_wsX70 (gd_app (gd_V q_X7_disc) (gd_app (gd_S q_X7_root) gd_nil))))
theorem g_X7_reach_X7_disc : GoodIn vX7_reach (wsV RX7 74 RX7 yX7_disc vX7_disc) := gi_of (fun w h => List.mem_cons_of_mem _ (List.mem_append_right _ (List.mem_append_right _ (List.mem_append_left _ h)))) (gd_V q_X7_disc)
theorem g_X7_reach_X7_root : GoodIn vX7_reach (va_wsS RX7 78 yX7_root vX7_root) := gi_of (fun w h => List.mem_cons_of_mem _ (List.mem_append_right _ (List.mem_append_right _ (List.mem_append_right _ (List.mem_append_left _ h))))) (gd_S q_X7_root)
abbrev rmX7_reach : Room := { frames := 1, cells := 0, slots := 0, locals := 25 }
set_option maxHeartbeats 4000000 in
set_option maxRecDepth 100000 in
theorem c_X7_reach (l : Launch) (dC : Nat → ClassId) (dI : Nat → Nat → Nat) (cI : ClassId) (cJ : ClassId) (h : Nat) (a : Nat → Nat) (fu : Nat) (forms : Int32) (prime : Int32) (turns : Int32) (lineT : Int32) (lineU : Int32) (kinds : Int32) (upper : Int64) (lower : Int64) (numbers : Nat → Int32) (q : Nat → Int64) (base : Nat → Int64) (least : Nat → Int64) (table : Nat → Int64) (rows : Nat → Int64) (lists : Nat → Int64) (listSize : Nat → Int32) (tried : Nat → Int64) (other : Nat → Int64) (line : Nat → Int64) (makers : Nat → Int64) (touches : Nat → Int64) (made : Nat → Int64) (kindForm : Nat → Int64) (kindTurns : Nat → Int32) (kindWays : Nat → Int32) (p0 : Int32) (p1 : Int64) (ro : Int64) (hF : fX7_reach fu q p0 p1 = some ro) : Met l yX7_reach vX7_reach rmX7_reach (va_Pc [.ref h, .int p0, .long p1] (rPc (dC, dI) vwCl (mW cI cJ h a forms prime turns lineT lineU kinds upper lower numbers q base least table rows lists listSize tried other line makers touches made kindForm kindTurns kindWays) [(cI, .int), (cJ, .long)])) (vp_Sl (fun x => x = ro)) 0 0 (fun _ => False) := by
  refine Met.ofW (cc := cX7_reach) (maxL := 6) (ret := (some .long)) (by decide) rfl ?_
  intro p e s m args below meth c s₁ B hml hv
  obtain ⟨rfl, hP, hK⟩ := hv
  have hx := B.exec
  have hb := B.bytes
  have hr := B.returns
  have hts := atoms_spec (ws := vX7_reach) B.pre
  have hlk : ∀ w ∈ lkX7_reach, w.before _ s = true := fun w h => hts w (List.mem_cons_of_mem _ (List.mem_append_left _ h))
  have hown : s.vm.findClass RX7 = some m.cls := findClass_of_methodNamed B.named
  have hlocks := B.notSynchronized
  have hinX7 : ∀ w ∈ wsX70, w ∈ vX7_reach := fun w h => List.mem_cons_of_mem _ (List.mem_append_right _ (List.mem_append_left _ h))
  have hf_17 := hlk (.fieldLink RX7 17 "KinFormsModel" "q" "[J") (by decide +kernel)
  have hl := lv_entry ([.ref h, .int p0, .long p1] : List Value) (n := 6) (Nat.le_of_ble_eq_true rfl)
  rw [lg_entry_eq]
  generalize (lg_sl ([.ref h, .int p0, .long p1] : List Value) ++ List.replicate (6 - (lg_sl ([.ref h, .int p0, .long p1] : List Value)).length) Slot.unset).toArray = ls at hl ⊢
  have hl : lv_has ls 6 [(0, .ref h), (1, .int p0), (2, .long p1)] := hl
  unfold fX7_reach at hF
  refine W_Q (fun Q hQ => ?_)
  refine lv_iload_n hx hb dX7_reach_0 rfl (lv_at hl 1 rfl) ?_
  obtain ⟨k108, e_k108, hF⟩ := nm_ex hF
  have hk108 : ∀ (s_1 : Int64) (ls : Array Slot), lv_has ls 6 [(0, .ref h), (2, .long p1)] → k108 s_1 = some ro → W p l e rmX7_reach s m ([.ref h, .int p0, .long p1] : List Value).toArray below meth c s.heap [] 0 0 Q (F0 m 108 ls [.long s_1]) := by
    intro s_1 ls hl hF
    have hF := ka1 e_k108 hF
    refine lv_lstore (lv' := [(4, .long s_1), (0, .ref h), (2, .long p1)]) hx hb dX7_reach_108 hl (by decide) rfl (fun ls hl => ?_)
    refine lv_lload_n hx hb dX7_reach_110 rfl (lv_at hl 2 rfl) ?_
    refine lv_lload hx hb dX7_reach_111 (lv_at hl 0 rfl) ?_
    refine lv_lmul hx hb dX7_reach_113 ?_
    refine lv_aload_n hx hb dX7_reach_114 rfl (lv_at hl 1 rfl) ?_
    obtain ⟨r_2, hc, hF⟩ := bd1_of hF
    refine rc_l (va_runV (As := []) (rest := [.long (p1 * s_1)]) ⟨hx, hb, hml, hown, hts⟩ (c_X7_disc l dC dI cI cJ h a forms prime turns lineT lineU kinds upper lower numbers q base least table rows lists listSize tried other line makers touches made kindForm kindTurns kindWays  r_2 hc) (cwV 0 hts g_X7_reach_X7_disc rfl rfl rfl (by decide +kernel) ⟨Nat.le_of_ble_eq_true rfl, Nat.le_of_ble_eq_true rfl⟩) ⟨rPc_blind, va_recv hK hP (ci := 5) (q0 := 0) rfl rfl, rPc_at hK hP⟩ rfl rfl hl.1 rfl (lv_room (Nat.le_of_ble_eq_true rfl)) dX7_reach_115 ⟨Nat.zero_le _, Nat.zero_le _⟩) ?_
    obtain ⟨hz, hF⟩ := ck_of hF
    refine lv_ldiv hx hb dX7_reach_118 hz ?_
    obtain ⟨r_3, hc, hF⟩ := bd1_of hF
    refine rc_l (va_runS (As := [.long ((p1 * s_1) / r_2)]) (rest := []) ⟨hx, hb, hml, hown, hts⟩ (c_X7_root l fu ((p1 * s_1) / r_2) r_3 hc) (va_cwS 1 hts g_X7_reach_X7_root rfl rfl rfl (by decide +kernel) ⟨Nat.le_of_ble_eq_true rfl, Nat.le_of_ble_eq_true rfl⟩) ⟨tPc_blind, tPc_at⟩ rfl rfl hl.1 rfl (lv_room (Nat.le_of_ble_eq_true rfl)) dX7_reach_119 ⟨Nat.zero_le _, Nat.zero_le _⟩) ?_
    have q0 := sm1 hF
    refine W_Qe hQ ?_
    exact W.lret hx hb hr (fun t ht hW => ⟨_, rfl, q0, ht⟩) (fun _ h9 => by cases h9) dX7_reach_122
  clear e_k108
  refine lv_if_ne (tgt := 38) hx hb dX7_reach_1 (by decide) (fun c0 => ?_) (fun c0 => ?_)
  · have hF := if_f hF c0
    refine lv_iload_n hx hb dX7_reach_38 rfl (lv_at hl 1 rfl) ?_
    refine lv_iconst (v := 1) hx hb dX7_reach_39 (by decide) ?_
    refine lv_icmp_ne (tgt := 77) hx hb dX7_reach_40 (by decide) (fun c0 => ?_) (fun c0 => ?_)
    · have hF := if_f hF c0
      refine lv_ldc2 (v := (4)) hx hb hown (hlk (.constantLong RX7 70 (4)) (by decide +kernel)) dX7_reach_77 ?_
      refine lv_aload_n hx hb dX7_reach_80 rfl (lv_at hl 0 rfl) ?_
      refine va_get (D := (dC, dI)) (ci := 5) (v := .ref (a 2)) (C := RX7) (T := TX7) (N := 25) hx hb hts hinX7 hown hK hP 0 rfl rfl 3 (by decide) hf_17 (fun _ h9 => h9) rfl dX7_reach_81 ?_
      refine lv_iconst (v := 0) hx hb dX7_reach_84 (by decide) ?_
      refine kc_lald (j := 0) hx hb hK hP 2 1 rfl rfl (by decide) (by decide) dX7_reach_85 ?_
      refine lv_lmul hx hb dX7_reach_86 ?_
      refine lv_aload_n hx hb dX7_reach_87 rfl (lv_at hl 0 rfl) ?_
      refine va_get (D := (dC, dI)) (ci := 5) (v := .ref (a 2)) (C := RX7) (T := TX7) (N := 25) hx hb hts hinX7 hown hK hP 0 rfl rfl 3 (by decide) hf_17 (fun _ h9 => h9) rfl dX7_reach_88 ?_
      refine lv_iconst (v := 1) hx hb dX7_reach_91 (by decide) ?_
      refine kc_lald (j := 1) hx hb hK hP 2 1 rfl rfl (by decide) (by decide) dX7_reach_92 ?_
      refine lv_lmul hx hb dX7_reach_93 ?_
      refine lv_aload_n hx hb dX7_reach_94 rfl (lv_at hl 0 rfl) ?_
      refine va_get (D := (dC, dI)) (ci := 5) (v := .ref (a 2)) (C := RX7) (T := TX7) (N := 25) hx hb hts hinX7 hown hK hP 0 rfl rfl 3 (by decide) hf_17 (fun _ h9 => h9) rfl dX7_reach_95 ?_
      refine lv_iconst (v := 5) hx hb dX7_reach_98 (by decide) ?_
      refine kc_lald (j := 5) hx hb hK hP 2 1 rfl rfl (by decide) (by decide) dX7_reach_99 ?_
      refine lv_aload_n hx hb dX7_reach_100 rfl (lv_at hl 0 rfl) ?_
      refine va_get (D := (dC, dI)) (ci := 5) (v := .ref (a 2)) (C := RX7) (T := TX7) (N := 25) hx hb hts hinX7 hown hK hP 0 rfl rfl 3 (by decide) hf_17 (fun _ h9 => h9) rfl dX7_reach_101 ?_
      refine lv_iconst (v := 5) hx hb dX7_reach_104 (by decide) ?_
      refine kc_lald (j := 5) hx hb hK hP 2 1 rfl rfl (by decide) (by decide) dX7_reach_105 ?_
      refine lv_lmul hx hb dX7_reach_106 ?_
      refine lv_lsub hx hb dX7_reach_107 ?_
      exact hk108 ((((4 : Int64) * (q 0)) * (q 1)) - ((q 5) * (q 5))) ls (lv_sub hl [0, 2] rfl) hF
    · have hF := if_t hF c0
      refine lv_ldc2 (v := (4)) hx hb hown (hlk (.constantLong RX7 70 (4)) (by decide +kernel)) dX7_reach_43 ?_
      refine lv_aload_n hx hb dX7_reach_46 rfl (lv_at hl 0 rfl) ?_
      refine va_get (D := (dC, dI)) (ci := 5) (v := .ref (a 2)) (C := RX7) (T := TX7) (N := 25) hx hb hts hinX7 hown hK hP 0 rfl rfl 3 (by decide) hf_17 (fun _ h9 => h9) rfl dX7_reach_47 ?_
      refine lv_iconst (v := 0) hx hb dX7_reach_50 (by decide) ?_
      refine kc_lald (j := 0) hx hb hK hP 2 1 rfl rfl (by decide) (by decide) dX7_reach_51 ?_
      refine lv_lmul hx hb dX7_reach_52 ?_
      refine lv_aload_n hx hb dX7_reach_53 rfl (lv_at hl 0 rfl) ?_
      refine va_get (D := (dC, dI)) (ci := 5) (v := .ref (a 2)) (C := RX7) (T := TX7) (N := 25) hx hb hts hinX7 hown hK hP 0 rfl rfl 3 (by decide) hf_17 (fun _ h9 => h9) rfl dX7_reach_54 ?_
      refine lv_iconst (v := 2) hx hb dX7_reach_57 (by decide) ?_
      refine kc_lald (j := 2) hx hb hK hP 2 1 rfl rfl (by decide) (by decide) dX7_reach_58 ?_
      refine lv_lmul hx hb dX7_reach_59 ?_
      refine lv_aload_n hx hb dX7_reach_60 rfl (lv_at hl 0 rfl) ?_
      refine va_get (D := (dC, dI)) (ci := 5) (v := .ref (a 2)) (C := RX7) (T := TX7) (N := 25) hx hb hts hinX7 hown hK hP 0 rfl rfl 3 (by decide) hf_17 (fun _ h9 => h9) rfl dX7_reach_61 ?_
      refine lv_iconst (v := 4) hx hb dX7_reach_64 (by decide) ?_
      refine kc_lald (j := 4) hx hb hK hP 2 1 rfl rfl (by decide) (by decide) dX7_reach_65 ?_
      refine lv_aload_n hx hb dX7_reach_66 rfl (lv_at hl 0 rfl) ?_
      refine va_get (D := (dC, dI)) (ci := 5) (v := .ref (a 2)) (C := RX7) (T := TX7) (N := 25) hx hb hts hinX7 hown hK hP 0 rfl rfl 3 (by decide) hf_17 (fun _ h9 => h9) rfl dX7_reach_67 ?_
      refine lv_iconst (v := 4) hx hb dX7_reach_70 (by decide) ?_
      refine kc_lald (j := 4) hx hb hK hP 2 1 rfl rfl (by decide) (by decide) dX7_reach_71 ?_
      refine lv_lmul hx hb dX7_reach_72 ?_
      refine lv_lsub hx hb dX7_reach_73 ?_
      refine lv_goto (tgt := 108) hx hb dX7_reach_74 (by decide) ?_
      exact hk108 ((((4 : Int64) * (q 0)) * (q 2)) - ((q 4) * (q 4))) ls (lv_sub hl [0, 2] rfl) hF
  · have hF := if_t hF c0
    refine lv_ldc2 (v := (4)) hx hb hown (hlk (.constantLong RX7 70 (4)) (by decide +kernel)) dX7_reach_4 ?_
    refine lv_aload_n hx hb dX7_reach_7 rfl (lv_at hl 0 rfl) ?_
    refine va_get (D := (dC, dI)) (ci := 5) (v := .ref (a 2)) (C := RX7) (T := TX7) (N := 25) hx hb hts hinX7 hown hK hP 0 rfl rfl 3 (by decide) hf_17 (fun _ h9 => h9) rfl dX7_reach_8 ?_
    refine lv_iconst (v := 1) hx hb dX7_reach_11 (by decide) ?_
    refine kc_lald (j := 1) hx hb hK hP 2 1 rfl rfl (by decide) (by decide) dX7_reach_12 ?_
    refine lv_lmul hx hb dX7_reach_13 ?_
    refine lv_aload_n hx hb dX7_reach_14 rfl (lv_at hl 0 rfl) ?_
    refine va_get (D := (dC, dI)) (ci := 5) (v := .ref (a 2)) (C := RX7) (T := TX7) (N := 25) hx hb hts hinX7 hown hK hP 0 rfl rfl 3 (by decide) hf_17 (fun _ h9 => h9) rfl dX7_reach_15 ?_
    refine lv_iconst (v := 2) hx hb dX7_reach_18 (by decide) ?_
    refine kc_lald (j := 2) hx hb hK hP 2 1 rfl rfl (by decide) (by decide) dX7_reach_19 ?_
    refine lv_lmul hx hb dX7_reach_20 ?_
    refine lv_aload_n hx hb dX7_reach_21 rfl (lv_at hl 0 rfl) ?_
    refine va_get (D := (dC, dI)) (ci := 5) (v := .ref (a 2)) (C := RX7) (T := TX7) (N := 25) hx hb hts hinX7 hown hK hP 0 rfl rfl 3 (by decide) hf_17 (fun _ h9 => h9) rfl dX7_reach_22 ?_
    refine lv_iconst (v := 3) hx hb dX7_reach_25 (by decide) ?_
    refine kc_lald (j := 3) hx hb hK hP 2 1 rfl rfl (by decide) (by decide) dX7_reach_26 ?_
    refine lv_aload_n hx hb dX7_reach_27 rfl (lv_at hl 0 rfl) ?_
    refine va_get (D := (dC, dI)) (ci := 5) (v := .ref (a 2)) (C := RX7) (T := TX7) (N := 25) hx hb hts hinX7 hown hK hP 0 rfl rfl 3 (by decide) hf_17 (fun _ h9 => h9) rfl dX7_reach_28 ?_
    refine lv_iconst (v := 3) hx hb dX7_reach_31 (by decide) ?_
    refine kc_lald (j := 3) hx hb hK hP 2 1 rfl rfl (by decide) (by decide) dX7_reach_32 ?_
    refine lv_lmul hx hb dX7_reach_33 ?_
    refine lv_lsub hx hb dX7_reach_34 ?_
    refine lv_goto (tgt := 108) hx hb dX7_reach_35 (by decide) ?_
    exact hk108 ((((4 : Int64) * (q 1)) * (q 2)) - ((q 3) * (q 3))) ls (lv_sub hl [0, 2] rfl) hF
def fX7_take_L166 (q_13 : Nat → Int64) (p1 : Int32) (p0 : Int32) (s_6 : Int64) : Nat → (Int32) → (Nat → Int64) → Option (Int32 × (Nat → Int64) × (Nat → Int64))
  | 0, _, _ => none
  | n + 1, x14_14, base_15 => if (3 : Int32) ≤ x14_14 then (some ((1 : Int32), q_13, base_15)) else (nm (((3 : Int32) * p1) + x14_14) (fun (v_16 : Int32) => if okI v_16 9 then nm (((3 : Int32) * p0) + x14_14) (fun (v_17 : Int32) => if okI v_17 9 then nm (((3 : Int32) * p1) + x14_14) (fun (v_18 : Int32) => if okI v_18 9 then nm (vp_updL base_15 v_18.toNatClampNeg ((base_15 v_16.toNatClampNeg) - (s_6 * (base_15 v_17.toNatClampNeg)))) (fun (base_19 : Nat → Int64) => nm (x14_14 + (1 : Int32)) (fun (x14_20 : Int32) => (fX7_take_L166 q_13 p1 p0 s_6 n x14_20 base_19))) else none) else none) else none))
def fX7_take (fu : Nat) (q : Nat → Int64) (base : Nat → Int64) (p0 : Int32) (p1 : Int32) : Option (Int32 × (Nat → Int64) × (Nat → Int64)) :=
  nm (((3 : Int32) - p0) - p1) (fun (x3_1 : Int32) => bd1 (fX7_touchAt p0 p1) (fun (r_2 : Int32) => if okI r_2 6 then nm (q r_2.toNatClampNeg) (fun (x4_3 : Int64) => if okI p0 6 then nm ((2 : Int64) * (q p0.toNatClampNeg)) (fun (x6_4 : Int64) => if okI p0 6 then nm (x4_3 + (q p0.toNatClampNeg)) (fun (x8_5 : Int64) => nm (fun (s_6 : Int64) => if okI p1 6 then if okI p0 6 then nm (((q p1.toNatClampNeg) - (s_6 * x4_3)) + ((s_6 * s_6) * (q p0.toNatClampNeg))) (fun (x12_7 : Int64) => if okI p1 6 then if x12_7 < (q p1.toNatClampNeg) then (if okI p1 6 then nm (vp_updL q p1.toNatClampNeg x12_7) (fun (q_8 : Nat → Int64) => bd1 (fX7_touchAt p0 p1) (fun (r_9 : Int32) => if okI r_9 6 then nm (vp_updL q_8 r_9.toNatClampNeg (x4_3 - (s_6 * x6_4))) (fun (q_10 : Nat → Int64) => bd1 (fX7_touchAt p1 x3_1) (fun (r_11 : Int32) => if okI r_11 6 then bd1 (fX7_touchAt p0 x3_1) (fun (r_12 : Int32) => if okI r_12 6 then if okI r_11 6 then nm (vp_updL q_10 r_11.toNatClampNeg ((q_10 r_11.toNatClampNeg) - (s_6 * (q_10 r_12.toNatClampNeg)))) (fun (q_13 : Nat → Int64) => (fX7_take_L166 q_13 p1 p0 s_6 fu (0 : Int32) base)) else none else none) else none)) else none)) else none) else (some ((0 : Int32), q, base)) else none) else none else none) (fun (k68 : (Int64) → Option (Int32 × (Nat → Int64) × (Nat → Int64))) => if x8_5 < (0 : Int64) then (if ¬ x6_4 = 0 then (k68 (-((((-x8_5) + x6_4) - (1 : Int64)) / x6_4))) else none) else (if ¬ x6_4 = 0 then (k68 (x8_5 / x6_4)) else none))) else none) else none) else none))
def lkX7_take : List Cond := [.constantLong RX7 86 (2), .fieldLink RX7 17 "KinFormsModel" "q" "[J", .fieldLink RX7 21 "KinFormsModel" "base" "[J"]
def vX7_take : List Cond := .code yX7_take cX7_take 15 (some .boolean) :: (lkX7_take ++ (wsX70 ++ (va_wsS RX7 82 yX7_touchAt vX7_touchAt ++ ([]))))
theorem q_X7_take : ∀ w ∈ vX7_take, goodWord w = true := gd_cons rfl (gd_app (by decide +kernel) (gd_app q_wsX70 (gd_app (gd_S q_X7_touchAt) gd_nil)))
theorem g_X7_take_X7_touchAt : GoodIn vX7_take (va_wsS RX7 82 yX7_touchAt vX7_touchAt) := gi_of (fun w h => List.mem_cons_of_mem _ (List.mem_append_right _ (List.mem_append_right _ (List.mem_append_left _ h)))) (gd_S q_X7_touchAt)
abbrev rmX7_take : Room := { frames := 1, cells := 0, slots := 0, locals := 21 }
set_option maxHeartbeats 4000000 in
set_option maxRecDepth 100000 in
theorem c_X7_take (l : Launch) (dC : Nat → ClassId) (dI : Nat → Nat → Nat) (cI : ClassId) (cJ : ClassId) (h : Nat) (a : Nat → Nat) (fu : Nat) (sz : Nat) (forms : Int32) (prime : Int32) (turns : Int32) (lineT : Int32) (lineU : Int32) (kinds : Int32) (upper : Int64) (lower : Int64) (numbers : Nat → Int32) (q : Nat → Int64) (base : Nat → Int64) (least : Nat → Int64) (table : Nat → Int64) (rows : Nat → Int64) (lists : Nat → Int64) (listSize : Nat → Int32) (tried : Nat → Int64) (other : Nat → Int64) (line : Nat → Int64) (makers : Nat → Int64) (touches : Nat → Int64) (made : Nat → Int64) (kindForm : Nat → Int64) (kindTurns : Nat → Int32) (kindWays : Nat → Int32) (p0 : Int32) (p1 : Int32) (ro : Int32) (o_q : Nat → Int64) (o_base : Nat → Int64) (hF : fX7_take fu q base p0 p1 = some (ro, o_q, o_base)) : Met l yX7_take vX7_take rmX7_take (va_Pc [.ref h, .int p0, .int p1] (mPc (dC, dI) vwCl (mW cI cJ h a forms prime turns lineT lineU kinds upper lower numbers q base least table rows lists listSize tried other line makers touches made kindForm kindTurns kindWays) [(cI, .int), (cJ, .long)] sz)) (va_Qi (fun x (_ : Unit) => x = ro) (mPo (dC, dI) vwCl (mW cI cJ h a forms prime turns lineT lineU kinds upper lower numbers o_q o_base least table rows lists listSize tried other line makers touches made kindForm kindTurns kindWays) [(cI, .int), (cJ, .long)] (va_A (mW cI cJ h a forms prime turns lineT lineU kinds upper lower numbers q base least table rows lists listSize tried other line makers touches made kindForm kindTurns kindWays) sz)) (va_A (mW cI cJ h a forms prime turns lineT lineU kinds upper lower numbers q base least table rows lists listSize tried other line makers touches made kindForm kindTurns kindWays) sz)) 0 0 (va_A (mW cI cJ h a forms prime turns lineT lineU kinds upper lower numbers q base least table rows lists listSize tried other line makers touches made kindForm kindTurns kindWays) sz) := by
  refine Met.ofW (cc := cX7_take) (maxL := 15) (ret := (some .boolean)) (by decide) rfl ?_
  intro p e s m args below meth c s₁ B hml hv
  obtain ⟨rfl, hsz, hP, hK, hD0⟩ := hv
  have hx := B.exec
  have hb := B.bytes
  have hr := B.returns
  have hts := atoms_spec (ws := vX7_take) B.pre
  have hlk : ∀ w ∈ lkX7_take, w.before _ s = true := fun w h => hts w (List.mem_cons_of_mem _ (List.mem_append_left _ h))
  have hown : s.vm.findClass RX7 = some m.cls := findClass_of_methodNamed B.named
  have hlocks := B.notSynchronized
  subst hsz
  have hD := hD0.self (sz := s.heap.size)
  generalize hAe : va_A (mW cI cJ h a forms prime turns lineT lineU kinds upper lower numbers q base least table rows lists listSize tried other line makers touches made kindForm kindTurns kindWays) s.heap.size = A at hD ⊢
  have hA : ∀ q : Nat, s.heap.size ≤ q → A q := fun q h => by rw [← hAe]; exact Or.inr h
  have hS : va_S A s.heap s.heap [] := va_S.rf
  have hinX7 : ∀ w ∈ wsX70, w ∈ vX7_take := fun w h => List.mem_cons_of_mem _ (List.mem_append_right _ (List.mem_append_left _ h))
  have hf_17 := hlk (.fieldLink RX7 17 "KinFormsModel" "q" "[J") (by decide +kernel)
  have hf_21 := hlk (.fieldLink RX7 21 "KinFormsModel" "base" "[J") (by decide +kernel)
  have hl := lv_entry ([.ref h, .int p0, .int p1] : List Value) (n := 15) (Nat.le_of_ble_eq_true rfl)
  rw [lg_entry_eq]
  generalize (lg_sl ([.ref h, .int p0, .int p1] : List Value) ++ List.replicate (15 - (lg_sl ([.ref h, .int p0, .int p1] : List Value)).length) Slot.unset).toArray = ls at hl ⊢
  have hl : lv_has ls 15 [(0, .ref h), (1, .int p0), (2, .int p1)] := hl
  unfold fX7_take at hF
  refine W_Q (fun Q hQ => ?_)
  have hP : va_P (dC, dI) vwCl (mW cI cJ h a forms prime turns lineT lineU kinds upper lower numbers q base least table rows lists listSize tried other line makers touches made kindForm kindTurns kindWays) s.heap := hP
  refine W_HL (fun H locs eH eL => ?_)
  rw [← eH] at hP
  have hS : va_S A s.heap H locs := by rw [eH, eL]; exact hS
  refine lv_iconst (v := 3) hx hb dX7_take_0 (by decide) ?_
  refine lv_iload_n hx hb dX7_take_1 rfl (lv_at hl 1 rfl) ?_
  refine lv_isub hx hb dX7_take_2 ?_
  refine lv_iload_n hx hb dX7_take_3 rfl (lv_at hl 2 rfl) ?_
  refine lv_isub hx hb dX7_take_4 ?_
  refine lv_topi (fun x3_1 e_x3_1 => ?_)
  have hF := nm_at hF e_x3_1
  refine lv_istore_n (lv' := [(3, .int x3_1), (0, .ref h), (1, .int p0), (2, .int p1)]) hx hb dX7_take_5 rfl hl (by decide) rfl (fun ls hl => ?_)
  refine lv_aload_n hx hb dX7_take_6 rfl (lv_at hl 1 rfl) ?_
  refine va_get (D := (dC, dI)) (ci := 5) (v := .ref (a 2)) (C := RX7) (T := TX7) (N := 25) hx hb hts hinX7 hown hK hP 0 rfl rfl 3 (by decide) hf_17 (fun _ h9 => h9) rfl dX7_take_7 ?_
  refine lv_iload_n hx hb dX7_take_10 rfl (lv_at hl 2 rfl) ?_
  refine lv_iload_n hx hb dX7_take_11 rfl (lv_at hl 3 rfl) ?_
  obtain ⟨r_2, hc, hF⟩ := bd1_of hF
  refine rc_i (va_runS (As := [.int p0, .int p1]) (rest := [.ref (a 2)]) ⟨hx, hb, hml, hown, hts⟩ (c_X7_touchAt l p0 p1 r_2 hc) (va_cwS 2 hts g_X7_take_X7_touchAt rfl rfl rfl (by decide +kernel) ⟨Nat.le_of_ble_eq_true rfl, Nat.le_of_ble_eq_true rfl⟩) ⟨tPc_blind, tPc_at⟩ rfl rfl hl.1 rfl (lv_room (Nat.le_of_ble_eq_true rfl)) dX7_take_12 ⟨Nat.zero_le _, Nat.zero_le _⟩) ?_
  obtain ⟨hi, hF⟩ := ck_of hF
  refine va_lald hx hb hK hP 2 1 rfl rfl hi dX7_take_15 ?_
  refine lv_topl (fun x4_3 e_x4_3 => ?_)
  have hF := nm_at hF e_x4_3
  refine lv_lstore (lv' := [(4, .long x4_3), (3, .int x3_1), (0, .ref h), (1, .int p0), (2, .int p1)]) hx hb dX7_take_16 hl (by decide) rfl (fun ls hl => ?_)
  refine lv_ldc2 (v := (2)) hx hb hown (hlk (.constantLong RX7 86 (2)) (by decide +kernel)) dX7_take_18 ?_
  refine lv_aload_n hx hb dX7_take_21 rfl (lv_at hl 2 rfl) ?_
  refine va_get (D := (dC, dI)) (ci := 5) (v := .ref (a 2)) (C := RX7) (T := TX7) (N := 25) hx hb hts hinX7 hown hK hP 0 rfl rfl 3 (by decide) hf_17 (fun _ h9 => h9) rfl dX7_take_22 ?_
  refine lv_iload_n hx hb dX7_take_25 rfl (lv_at hl 3 rfl) ?_
  obtain ⟨hi, hF⟩ := ck_of hF
  refine va_lald hx hb hK hP 2 1 rfl rfl hi dX7_take_26 ?_
  refine lv_lmul hx hb dX7_take_27 ?_
  refine lv_topl (fun x6_4 e_x6_4 => ?_)
  have hF := nm_at hF e_x6_4
  refine lv_lstore (lv' := [(6, .long x6_4), (4, .long x4_3), (3, .int x3_1), (0, .ref h), (1, .int p0), (2, .int p1)]) hx hb dX7_take_28 hl (by decide) rfl (fun ls hl => ?_)
  refine lv_lload hx hb dX7_take_30 (lv_at hl 1 rfl) ?_
  refine lv_aload_n hx hb dX7_take_32 rfl (lv_at hl 3 rfl) ?_
  refine va_get (D := (dC, dI)) (ci := 5) (v := .ref (a 2)) (C := RX7) (T := TX7) (N := 25) hx hb hts hinX7 hown hK hP 0 rfl rfl 3 (by decide) hf_17 (fun _ h9 => h9) rfl dX7_take_33 ?_
  refine lv_iload_n hx hb dX7_take_36 rfl (lv_at hl 4 rfl) ?_
  obtain ⟨hi, hF⟩ := ck_of hF
  refine va_lald hx hb hK hP 2 1 rfl rfl hi dX7_take_37 ?_
  refine lv_ladd hx hb dX7_take_38 ?_
  refine lv_topl (fun x8_5 e_x8_5 => ?_)
  have hF := nm_at hF e_x8_5
  refine lv_lstore (lv' := [(8, .long x8_5), (6, .long x6_4), (4, .long x4_3), (3, .int x3_1), (0, .ref h), (1, .int p0), (2, .int p1)]) hx hb dX7_take_39 hl (by decide) rfl (fun ls hl => ?_)
  refine lv_lload hx hb dX7_take_41 (lv_at hl 0 rfl) ?_
  refine lv_lconst (v := 0) hx hb dX7_take_43 (by decide) ?_
  refine W.lcmp hx hb dX7_take_44 ?_
  obtain ⟨k68, e_k68, hF⟩ := nm_ex hF
  have hk68 : ∀ (s_6 : Int64) (H : Heap) (locs : List Loc) (ls : Array Slot), va_P (dC, dI) vwCl (mW cI cJ h a forms prime turns lineT lineU kinds upper lower numbers q base least table rows lists listSize tried other line makers touches made kindForm kindTurns kindWays) H → va_D A (mW cI cJ h a forms prime turns lineT lineU kinds upper lower numbers q base least table rows lists listSize tried other line makers touches made kindForm kindTurns kindWays) → va_S A s.heap H locs → lv_has ls 15 [(0, .ref h), (1, .int p0), (2, .int p1), (3, .int x3_1), (4, .long x4_3), (6, .long x6_4)] → k68 s_6 = some (ro, o_q, o_base) → W p l e rmX7_take s m ([.ref h, .int p0, .int p1] : List Value).toArray below meth c H locs 0 0 Q (F0 m 68 ls [.long s_6]) := by
    intro s_6 H locs ls hP hD hS hl hF
    have hF := ka1 e_k68 hF
    refine lv_lstore (lv' := [(10, .long s_6), (0, .ref h), (1, .int p0), (2, .int p1), (3, .int x3_1), (4, .long x4_3), (6, .long x6_4)]) hx hb dX7_take_68 hl (by decide) rfl (fun ls hl => ?_)
    refine lv_aload_n hx hb dX7_take_70 rfl (lv_at hl 1 rfl) ?_
    refine va_get (D := (dC, dI)) (ci := 5) (v := .ref (a 2)) (C := RX7) (T := TX7) (N := 25) hx hb hts hinX7 hown hK hP 0 rfl rfl 3 (by decide) hf_17 (fun _ h9 => h9) rfl dX7_take_71 ?_
    refine lv_iload_n hx hb dX7_take_74 rfl (lv_at hl 3 rfl) ?_
    obtain ⟨hi, hF⟩ := ck_of hF
    refine va_lald hx hb hK hP 2 1 rfl rfl hi dX7_take_75 ?_
    refine lv_lload hx hb dX7_take_76 (lv_at hl 0 rfl) ?_
    refine lv_lload hx hb dX7_take_78 (lv_at hl 5 rfl) ?_
    refine lv_lmul hx hb dX7_take_80 ?_
    refine lv_lsub hx hb dX7_take_81 ?_
    refine lv_lload hx hb dX7_take_82 (lv_at hl 0 rfl) ?_
    refine lv_lload hx hb dX7_take_84 (lv_at hl 0 rfl) ?_
    refine lv_lmul hx hb dX7_take_86 ?_
    refine lv_aload_n hx hb dX7_take_87 rfl (lv_at hl 1 rfl) ?_
    refine va_get (D := (dC, dI)) (ci := 5) (v := .ref (a 2)) (C := RX7) (T := TX7) (N := 25) hx hb hts hinX7 hown hK hP 0 rfl rfl 3 (by decide) hf_17 (fun _ h9 => h9) rfl dX7_take_88 ?_
    refine lv_iload_n hx hb dX7_take_91 rfl (lv_at hl 2 rfl) ?_
    obtain ⟨hi, hF⟩ := ck_of hF
    refine va_lald hx hb hK hP 2 1 rfl rfl hi dX7_take_92 ?_
    refine lv_lmul hx hb dX7_take_93 ?_
    refine lv_ladd hx hb dX7_take_94 ?_
    refine lv_topl (fun x12_7 e_x12_7 => ?_)
    have hF := nm_at hF e_x12_7
    refine lv_lstore (lv' := [(12, .long x12_7), (10, .long s_6), (0, .ref h), (1, .int p0), (2, .int p1), (3, .int x3_1), (4, .long x4_3), (6, .long x6_4)]) hx hb dX7_take_95 hl (by decide) rfl (fun ls hl => ?_)
    refine lv_lload hx hb dX7_take_97 (lv_at hl 0 rfl) ?_
    refine lv_aload_n hx hb dX7_take_99 rfl (lv_at hl 2 rfl) ?_
    refine va_get (D := (dC, dI)) (ci := 5) (v := .ref (a 2)) (C := RX7) (T := TX7) (N := 25) hx hb hts hinX7 hown hK hP 0 rfl rfl 3 (by decide) hf_17 (fun _ h9 => h9) rfl dX7_take_100 ?_
    refine lv_iload_n hx hb dX7_take_103 rfl (lv_at hl 4 rfl) ?_
    obtain ⟨hi, hF⟩ := ck_of hF
    refine va_lald hx hb hK hP 2 1 rfl rfl hi dX7_take_104 ?_
    refine W.lcmp hx hb dX7_take_105 ?_
    refine lv_if_lt (tgt := 111) hx hb dX7_take_106 (by decide) (fun c0 => ?_) (fun c0 => ?_)
    · have c0 := (lg_cmp_lt _ _).mp c0
      have hF := if_t hF c0
      refine lv_aload_n hx hb dX7_take_111 rfl (lv_at hl 2 rfl) ?_
      refine va_get (D := (dC, dI)) (ci := 5) (v := .ref (a 2)) (C := RX7) (T := TX7) (N := 25) hx hb hts hinX7 hown hK hP 0 rfl rfl 3 (by decide) hf_17 (fun _ h9 => h9) rfl dX7_take_112 ?_
      refine lv_iload_n hx hb dX7_take_115 rfl (lv_at hl 4 rfl) ?_
      refine lv_lload hx hb dX7_take_116 (lv_at hl 0 rfl) ?_
      obtain ⟨hi, hF⟩ := ck_of hF
      obtain ⟨q_8, e_q_8, hF⟩ := nm_ex hF
      refine kc_last (j := p1.toNatClampNeg) (g := q_8) hx hb hK hP hD hS 2 1 rfl rfl rfl hi dX7_take_118 e_q_8 (fun H locs hP hD hS => ?_)
      have hP : va_P (dC, dI) vwCl (mW cI cJ h a forms prime turns lineT lineU kinds upper lower numbers q_8 base least table rows lists listSize tried other line makers touches made kindForm kindTurns kindWays) H := hP
      have hD : va_D A (mW cI cJ h a forms prime turns lineT lineU kinds upper lower numbers q_8 base least table rows lists listSize tried other line makers touches made kindForm kindTurns kindWays) := hD
      refine lv_aload_n hx hb dX7_take_119 rfl (lv_at hl 2 rfl) ?_
      refine va_get (D := (dC, dI)) (ci := 5) (v := .ref (a 2)) (C := RX7) (T := TX7) (N := 25) hx hb hts hinX7 hown hK hP 0 rfl rfl 3 (by decide) hf_17 (fun _ h9 => h9) rfl dX7_take_120 ?_
      refine lv_iload_n hx hb dX7_take_123 rfl (lv_at hl 3 rfl) ?_
      refine lv_iload_n hx hb dX7_take_124 rfl (lv_at hl 4 rfl) ?_
      obtain ⟨r_9, hc, hF⟩ := bd1_of hF
      refine rc_i (va_runS (As := [.int p0, .int p1]) (rest := [.ref (a 2)]) ⟨hx, hb, hml, hown, hts⟩ (c_X7_touchAt l p0 p1 r_9 hc) (va_cwS 2 hts g_X7_take_X7_touchAt rfl rfl rfl (by decide +kernel) ⟨Nat.le_of_ble_eq_true rfl, Nat.le_of_ble_eq_true rfl⟩) ⟨tPc_blind, tPc_at⟩ rfl rfl hl.1 rfl (lv_room (Nat.le_of_ble_eq_true rfl)) dX7_take_125 ⟨Nat.zero_le _, Nat.zero_le _⟩) ?_
      refine lv_lload hx hb dX7_take_128 (lv_at hl 6 rfl) ?_
      refine lv_lload hx hb dX7_take_130 (lv_at hl 1 rfl) ?_
      refine lv_lload hx hb dX7_take_132 (lv_at hl 7 rfl) ?_
      refine lv_lmul hx hb dX7_take_134 ?_
      refine lv_lsub hx hb dX7_take_135 ?_
      obtain ⟨hi, hF⟩ := ck_of hF
      obtain ⟨q_10, e_q_10, hF⟩ := nm_ex hF
      refine kc_last (j := r_9.toNatClampNeg) (g := q_10) hx hb hK hP hD hS 2 1 rfl rfl rfl hi dX7_take_136 e_q_10 (fun H locs hP hD hS => ?_)
      have hP : va_P (dC, dI) vwCl (mW cI cJ h a forms prime turns lineT lineU kinds upper lower numbers q_10 base least table rows lists listSize tried other line makers touches made kindForm kindTurns kindWays) H := hP
      have hD : va_D A (mW cI cJ h a forms prime turns lineT lineU kinds upper lower numbers q_10 base least table rows lists listSize tried other line makers touches made kindForm kindTurns kindWays) := hD
      refine lv_aload_n hx hb dX7_take_137 rfl (lv_at hl 2 rfl) ?_
      refine va_get (D := (dC, dI)) (ci := 5) (v := .ref (a 2)) (C := RX7) (T := TX7) (N := 25) hx hb hts hinX7 hown hK hP 0 rfl rfl 3 (by decide) hf_17 (fun _ h9 => h9) rfl dX7_take_138 ?_
      refine lv_iload_n hx hb dX7_take_141 rfl (lv_at hl 4 rfl) ?_
      refine lv_iload_n hx hb dX7_take_142 rfl (lv_at hl 5 rfl) ?_
      obtain ⟨r_11, hc, hF⟩ := bd1_of hF
      refine rc_i (va_runS (As := [.int p1, .int x3_1]) (rest := [.ref (a 2)]) ⟨hx, hb, hml, hown, hts⟩ (c_X7_touchAt l p1 x3_1 r_11 hc) (va_cwS 2 hts g_X7_take_X7_touchAt rfl rfl rfl (by decide +kernel) ⟨Nat.le_of_ble_eq_true rfl, Nat.le_of_ble_eq_true rfl⟩) ⟨tPc_blind, tPc_at⟩ rfl rfl hl.1 rfl (lv_room (Nat.le_of_ble_eq_true rfl)) dX7_take_143 ⟨Nat.zero_le _, Nat.zero_le _⟩) ?_
      refine lv_dup2_11 hx hb dX7_take_146 rfl rfl ?_
      obtain ⟨hi, hF⟩ := ck_of hF
      refine va_lald hx hb hK hP 2 1 rfl rfl hi dX7_take_147 ?_
      refine lv_lload hx hb dX7_take_148 (lv_at hl 1 rfl) ?_
      refine lv_aload_n hx hb dX7_take_150 rfl (lv_at hl 2 rfl) ?_
      refine va_get (D := (dC, dI)) (ci := 5) (v := .ref (a 2)) (C := RX7) (T := TX7) (N := 25) hx hb hts hinX7 hown hK hP 0 rfl rfl 3 (by decide) hf_17 (fun _ h9 => h9) rfl dX7_take_151 ?_
      refine lv_iload_n hx hb dX7_take_154 rfl (lv_at hl 3 rfl) ?_
      refine lv_iload_n hx hb dX7_take_155 rfl (lv_at hl 5 rfl) ?_
      obtain ⟨r_12, hc, hF⟩ := bd1_of hF
      refine rc_i (va_runS (As := [.int p0, .int x3_1]) (rest := [.ref (a 2), .long s_6, .long (q_10 r_11.toNatClampNeg), .int r_11, .ref (a 2)]) ⟨hx, hb, hml, hown, hts⟩ (c_X7_touchAt l p0 x3_1 r_12 hc) (va_cwS 2 hts g_X7_take_X7_touchAt rfl rfl rfl (by decide +kernel) ⟨Nat.le_of_ble_eq_true rfl, Nat.le_of_ble_eq_true rfl⟩) ⟨tPc_blind, tPc_at⟩ rfl rfl hl.1 rfl (lv_room (Nat.le_of_ble_eq_true rfl)) dX7_take_156 ⟨Nat.zero_le _, Nat.zero_le _⟩) ?_
      obtain ⟨hi, hF⟩ := ck_of hF
      refine va_lald hx hb hK hP 2 1 rfl rfl hi dX7_take_159 ?_
      refine lv_lmul hx hb dX7_take_160 ?_
      refine lv_lsub hx hb dX7_take_161 ?_
      obtain ⟨hi, hF⟩ := ck_of hF
      obtain ⟨q_13, e_q_13, hF⟩ := nm_ex hF
      refine kc_last (j := r_11.toNatClampNeg) (g := q_13) hx hb hK hP hD hS 2 1 rfl rfl rfl hi dX7_take_162 e_q_13 (fun H locs hP hD hS => ?_)
      have hP : va_P (dC, dI) vwCl (mW cI cJ h a forms prime turns lineT lineU kinds upper lower numbers q_13 base least table rows lists listSize tried other line makers touches made kindForm kindTurns kindWays) H := hP
      have hD : va_D A (mW cI cJ h a forms prime turns lineT lineU kinds upper lower numbers q_13 base least table rows lists listSize tried other line makers touches made kindForm kindTurns kindWays) := hD
      refine lv_iconst (v := 0) hx hb dX7_take_163 (by decide) ?_
      refine lv_istore (lv' := [(14, .int (0 : Int32)), (12, .long x12_7), (10, .long s_6), (0, .ref h), (1, .int p0), (2, .int p1), (3, .int x3_1), (4, .long x4_3), (6, .long x6_4)]) hx hb dX7_take_164 hl (by decide) rfl (fun ls hl => ?_)
      have hL166 : ∀ n : Nat, ∀ (x14_14 : Int32) (base_15 : Nat → Int64) (H : Heap) (locs : List Loc) (ls : Array Slot), va_P (dC, dI) vwCl (mW cI cJ h a forms prime turns lineT lineU kinds upper lower numbers q_13 base_15 least table rows lists listSize tried other line makers touches made kindForm kindTurns kindWays) H → va_D A (mW cI cJ h a forms prime turns lineT lineU kinds upper lower numbers q_13 base_15 least table rows lists listSize tried other line makers touches made kindForm kindTurns kindWays) → va_S A s.heap H locs → lv_has ls 15 [(0, .ref h), (1, .int p0), (2, .int p1), (10, .long s_6), (14, .int x14_14)] → fX7_take_L166 q_13 p1 p0 s_6 n x14_14 base_15 = some (ro, o_q, o_base) → W p l e rmX7_take s m ([.ref h, .int p0, .int p1] : List Value).toArray below meth c H locs 0 0 Q (F0 m 166 ls []) := by
        intro n
        induction n with
        | zero => intro x14_14 base_15 H locs ls hP hD hS hl hF; rw [fX7_take_L166] at hF; cases hF
        | succ n ih166 =>
          intro x14_14 base_15 H locs ls hP hD hS hl hF
          rw [fX7_take_L166] at hF
          refine lv_iload hx hb dX7_take_166 (lv_at hl 4 rfl) ?_
          refine lv_iconst (v := 3) hx hb dX7_take_168 (by decide) ?_
          refine lv_icmp_ge (tgt := 206) hx hb dX7_take_169 (by decide) (fun c0 => ?_) (fun c0 => ?_)
          · have hF := if_t hF c0
            refine lv_iconst (v := 1) hx hb dX7_take_206 (by decide) ?_
            obtain ⟨q0, q1, q2⟩ := sm3 hF
            have hP : va_P (dC, dI) vwCl (mW cI cJ h a forms prime turns lineT lineU kinds upper lower numbers o_q o_base least table rows lists listSize tried other line makers touches made kindForm kindTurns kindWays) H := by rw [← q1, ← q2]; exact hP
            have hD : va_D A (mW cI cJ h a forms prime turns lineT lineU kinds upper lower numbers o_q o_base least table rows lists listSize tried other line makers touches made kindForm kindTurns kindWays) := by rw [← q1, ← q2]; exact hD
            refine W_Qe hQ ?_
            exact W.zret (ty := .boolean) hx hb hr (nz_bool (by decide)) (fun t ht hW => ⟨⟨(1 : Int32), (), rfl, q0, by rw [ht]; exact hP, va_K.moved hW.alike hK, hD⟩, hS.F ht⟩) hS.2.2 dX7_take_207
          · have hF := if_f hF c0
            refine lv_aload_n hx hb dX7_take_172 rfl (lv_at hl 0 rfl) ?_
            refine va_get (D := (dC, dI)) (ci := 5) (v := .ref (a 3)) (C := RX7) (T := TX7) (N := 25) hx hb hts hinX7 hown hK hP 0 rfl rfl 4 (by decide) hf_21 (fun _ h9 => h9) rfl dX7_take_173 ?_
            refine lv_iconst (v := 3) hx hb dX7_take_176 (by decide) ?_
            refine lv_iload_n hx hb dX7_take_177 rfl (lv_at hl 2 rfl) ?_
            refine lv_imul hx hb dX7_take_178 ?_
            refine lv_iload hx hb dX7_take_179 (lv_at hl 4 rfl) ?_
            refine lv_iadd hx hb dX7_take_181 ?_
            refine lv_dup2_11 hx hb dX7_take_182 rfl rfl ?_
            refine lv_topi (fun v_16 e_v_16 => ?_)
            have hF := nm_at hF e_v_16
            obtain ⟨hi, hF⟩ := ck_of hF
            refine va_lald hx hb hK hP 3 1 rfl rfl hi dX7_take_183 ?_
            refine lv_lload hx hb dX7_take_184 (lv_at hl 3 rfl) ?_
            refine lv_aload_n hx hb dX7_take_186 rfl (lv_at hl 0 rfl) ?_
            refine va_get (D := (dC, dI)) (ci := 5) (v := .ref (a 3)) (C := RX7) (T := TX7) (N := 25) hx hb hts hinX7 hown hK hP 0 rfl rfl 4 (by decide) hf_21 (fun _ h9 => h9) rfl dX7_take_187 ?_
            refine lv_iconst (v := 3) hx hb dX7_take_190 (by decide) ?_
            refine lv_iload_n hx hb dX7_take_191 rfl (lv_at hl 1 rfl) ?_
            refine lv_imul hx hb dX7_take_192 ?_
            refine lv_iload hx hb dX7_take_193 (lv_at hl 4 rfl) ?_
            refine lv_iadd hx hb dX7_take_195 ?_
            refine lv_topi (fun v_17 e_v_17 => ?_)
            have hF := nm_at hF e_v_17
            obtain ⟨hi, hF⟩ := ck_of hF
            refine va_lald hx hb hK hP 3 1 rfl rfl hi dX7_take_196 ?_
            refine lv_lmul hx hb dX7_take_197 ?_
            refine lv_lsub hx hb dX7_take_198 ?_
            obtain ⟨v_18, e_v_18, hF⟩ := nm_ex hF
            rw [← e_v_18]
            obtain ⟨hi, hF⟩ := ck_of hF
            obtain ⟨base_19, e_base_19, hF⟩ := nm_ex hF
            refine kc_last (j := v_18.toNatClampNeg) (g := base_19) hx hb hK hP hD hS 3 1 rfl rfl rfl hi dX7_take_199 e_base_19 (fun H locs hP hD hS => ?_)
            have hP : va_P (dC, dI) vwCl (mW cI cJ h a forms prime turns lineT lineU kinds upper lower numbers q_13 base_19 least table rows lists listSize tried other line makers touches made kindForm kindTurns kindWays) H := hP
            have hD : va_D A (mW cI cJ h a forms prime turns lineT lineU kinds upper lower numbers q_13 base_19 least table rows lists listSize tried other line makers touches made kindForm kindTurns kindWays) := hD
            obtain ⟨x14_20, e_x14_20, hF⟩ := nm_ex hF
            refine lv_iinc (v := x14_20) (lv' := [(14, .int x14_20), (0, .ref h), (1, .int p0), (2, .int p1), (10, .long s_6)]) hx hb dX7_take_200 hl (k := 4) rfl (by rw [e_x14_20]; rfl) (by decide) rfl (fun ls hl => ?_)
            refine lv_goto (tgt := 166) hx hb dX7_take_203 (by decide) ?_
            exact ih166 x14_20 base_19 H locs ls hP hD hS (lv_sub hl [1, 2, 3, 4, 0] rfl) hF
      exact hL166 fu (0 : Int32) base H locs ls hP hD hS (lv_sub hl [3, 4, 5, 2, 0] rfl) hF
    · have c0 := (not_congr (lg_cmp_lt _ _)).mp c0
      have hF := if_f hF c0
      refine lv_iconst (v := 0) hx hb dX7_take_109 (by decide) ?_
      obtain ⟨q0, q1, q2⟩ := sm3 hF
      have hP : va_P (dC, dI) vwCl (mW cI cJ h a forms prime turns lineT lineU kinds upper lower numbers o_q o_base least table rows lists listSize tried other line makers touches made kindForm kindTurns kindWays) H := by rw [← q1, ← q2]; exact hP
      have hD : va_D A (mW cI cJ h a forms prime turns lineT lineU kinds upper lower numbers o_q o_base least table rows lists listSize tried other line makers touches made kindForm kindTurns kindWays) := by rw [← q1, ← q2]; exact hD
      refine W_Qe hQ ?_
      exact W.zret (ty := .boolean) hx hb hr (nz_bool (by decide)) (fun t ht hW => ⟨⟨(0 : Int32), (), rfl, q0, by rw [ht]; exact hP, va_K.moved hW.alike hK, hD⟩, hS.F ht⟩) hS.2.2 dX7_take_110
  clear e_k68
  refine lv_if_lt (tgt := 56) hx hb dX7_take_45 (by decide) (fun c0 => ?_) (fun c0 => ?_)
  · have c0 := (lg_cmp_lt _ _).mp c0
    have hF := if_t hF c0
    refine lv_lload hx hb dX7_take_56 (lv_at hl 0 rfl) ?_
    refine lv_lneg hx hb dX7_take_58 ?_
    refine lv_lload hx hb dX7_take_59 (lv_at hl 1 rfl) ?_
    refine lv_ladd hx hb dX7_take_61 ?_
    refine lv_lconst (v := 1) hx hb dX7_take_62 (by decide) ?_
    refine lv_lsub hx hb dX7_take_63 ?_
    refine lv_lload hx hb dX7_take_64 (lv_at hl 1 rfl) ?_
    obtain ⟨hz, hF⟩ := ck_of hF
    refine lv_ldiv hx hb dX7_take_66 hz ?_
    refine lv_lneg hx hb dX7_take_67 ?_
    exact hk68 (-((((-x8_5) + x6_4) - (1 : Int64)) / x6_4)) H locs ls hP hD hS (lv_sub hl [4, 5, 6, 3, 2, 1] rfl) hF
  · have c0 := (not_congr (lg_cmp_lt _ _)).mp c0
    have hF := if_f hF c0
    refine lv_lload hx hb dX7_take_48 (lv_at hl 0 rfl) ?_
    refine lv_lload hx hb dX7_take_50 (lv_at hl 1 rfl) ?_
    obtain ⟨hz, hF⟩ := ck_of hF
    refine lv_ldiv hx hb dX7_take_52 hz ?_
    refine lv_goto (tgt := 68) hx hb dX7_take_53 (by decide) ?_
    exact hk68 (x8_5 / x6_4) H locs ls hP hD hS (lv_sub hl [4, 5, 6, 3, 2, 1] rfl) hF
