def fX7_det (lists : Nat → Int64) (p0 : Int32) (p1 : Int32) (p2 : Int32) : Option (Int64) :=
  if okI p1 5400 then nm (p1 + (1 : Int32)) (fun (v_1 : Int32) => if okI v_1 5400 then nm (p1 + (2 : Int32)) (fun (v_2 : Int32) => if okI v_2 5400 then if okI p2 5400 then nm (p2 + (1 : Int32)) (fun (v_3 : Int32) => if okI v_3 5400 then nm (p2 + (2 : Int32)) (fun (v_4 : Int32) => if okI v_4 5400 then bd1 (fX7_cross (lists p1.toNatClampNeg) (lists v_1.toNatClampNeg) (lists v_2.toNatClampNeg) (lists p2.toNatClampNeg) (lists v_3.toNatClampNeg) (lists v_4.toNatClampNeg) (0 : Int32)) (fun (r_5 : Int64) => if okI p1 5400 then nm (p1 + (1 : Int32)) (fun (v_6 : Int32) => if okI v_6 5400 then nm (p1 + (2 : Int32)) (fun (v_7 : Int32) => if okI v_7 5400 then if okI p2 5400 then nm (p2 + (1 : Int32)) (fun (v_8 : Int32) => if okI v_8 5400 then nm (p2 + (2 : Int32)) (fun (v_9 : Int32) => if okI v_9 5400 then bd1 (fX7_cross (lists p1.toNatClampNeg) (lists v_6.toNatClampNeg) (lists v_7.toNatClampNeg) (lists p2.toNatClampNeg) (lists v_8.toNatClampNeg) (lists v_9.toNatClampNeg) (1 : Int32)) (fun (r_10 : Int64) => if okI p1 5400 then nm (p1 + (1 : Int32)) (fun (v_11 : Int32) => if okI v_11 5400 then nm (p1 + (2 : Int32)) (fun (v_12 : Int32) => if okI v_12 5400 then if okI p2 5400 then nm (p2 + (1 : Int32)) (fun (v_13 : Int32) => if okI v_13 5400 then nm (p2 + (2 : Int32)) (fun (v_14 : Int32) => if okI v_14 5400 then bd1 (fX7_cross (lists p1.toNatClampNeg) (lists v_11.toNatClampNeg) (lists v_12.toNatClampNeg) (lists p2.toNatClampNeg) (lists v_13.toNatClampNeg) (lists v_14.toNatClampNeg) (2 : Int32)) (fun (r_15 : Int64) => if okI p0 5400 then nm (p0 + (1 : Int32)) (fun (v_16 : Int32) => if okI v_16 5400 then nm (p0 + (2 : Int32)) (fun (v_17 : Int32) => if okI v_17 5400 then nm ((((lists p0.toNatClampNeg) * r_5) + ((lists v_16.toNatClampNeg) * r_10)) + ((lists v_17.toNatClampNeg) * r_15)) (fun (v_18 : Int64) => some v_18) else none) else none) else none) else none) else none) else none else none) else none) else none) else none) else none) else none else none) else none) else none) else none) else none) else none else none) else none) else none
def lkX7_det : List Cond := [.fieldLink RX7 33 "KinFormsModel" "lists" "[J"]
def vX7_det : List Cond := .code yX7_det cX7_det 10 (some .long) :: (lkX7_det ++ (wsX70 ++ (va_wsS RX7 92 yX7_cross vX7_cross ++ ([]))))
theorem q_X7_det : ∀ w ∈ vX7_det, goodWord w = true := gd_cons rfl (gd_app (by decide +kernel) (gd_app q_wsX70 (gd_app (gd_S q_X7_cross) gd_nil)))
theorem g_X7_det_X7_cross : GoodIn vX7_det (va_wsS RX7 92 yX7_cross vX7_cross) := gi_of (fun w h => List.mem_cons_of_mem _ (List.mem_append_right _ (List.mem_append_right _ (List.mem_append_left _ h)))) (gd_S q_X7_cross)
abbrev rmX7_det : Room := { frames := 1, cells := 0, slots := 0, locals := 32 }
set_option maxHeartbeats 4000000 in
set_option maxRecDepth 100000 in
theorem c_X7_det (l : Launch) (dC : Nat → ClassId) (dI : Nat → Nat → Nat) (cI : ClassId) (cJ : ClassId) (h : Nat) (a : Nat → Nat) (forms : Int32) (prime : Int32) (turns : Int32) (lineT : Int32) (lineU : Int32) (kinds : Int32) (upper : Int64) (lower : Int64) (numbers : Nat → Int32) (q : Nat → Int64) (base : Nat → Int64) (least : Nat → Int64) (table : Nat → Int64) (rows : Nat → Int64) (lists : Nat → Int64) (listSize : Nat → Int32) (tried : Nat → Int64) (other : Nat → Int64) (line : Nat → Int64) (makers : Nat → Int64) (touches : Nat → Int64) (made : Nat → Int64) (kindForm : Nat → Int64) (kindTurns : Nat → Int32) (kindWays : Nat → Int32) (p0 : Int32) (p1 : Int32) (p2 : Int32) (ro : Int64) (hF : fX7_det lists p0 p1 p2 = some ro) : Met l yX7_det vX7_det rmX7_det (va_Pc [.ref h, .int p0, .int p1, .int p2] (rPc (dC, dI) vwCl (mW cI cJ h a forms prime turns lineT lineU kinds upper lower numbers q base least table rows lists listSize tried other line makers touches made kindForm kindTurns kindWays) [(cI, .int), (cJ, .long)])) (vp_Sl (fun x => x = ro)) 0 0 (fun _ => False) := by
  refine Met.ofW (cc := cX7_det) (maxL := 10) (ret := (some .long)) (by decide) rfl ?_
  intro p e s m args below meth c s₁ B hml hv
  obtain ⟨rfl, hP, hK⟩ := hv
  have hx := B.exec
  have hb := B.bytes
  have hr := B.returns
  have hts := atoms_spec (ws := vX7_det) B.pre
  have hlk : ∀ w ∈ lkX7_det, w.before _ s = true := fun w h => hts w (List.mem_cons_of_mem _ (List.mem_append_left _ h))
  have hown : s.vm.findClass RX7 = some m.cls := findClass_of_methodNamed B.named
  have hlocks := B.notSynchronized
  have hinX7 : ∀ w ∈ wsX70, w ∈ vX7_det := fun w h => List.mem_cons_of_mem _ (List.mem_append_right _ (List.mem_append_left _ h))
  have hf_33 := hlk (.fieldLink RX7 33 "KinFormsModel" "lists" "[J") (by decide +kernel)
  have hl := lv_entry ([.ref h, .int p0, .int p1, .int p2] : List Value) (n := 10) (Nat.le_of_ble_eq_true rfl)
  rw [lg_entry_eq]
  generalize (lg_sl ([.ref h, .int p0, .int p1, .int p2] : List Value) ++ List.replicate (10 - (lg_sl ([.ref h, .int p0, .int p1, .int p2] : List Value)).length) Slot.unset).toArray = ls at hl ⊢
  have hl : lv_has ls 10 [(0, .ref h), (1, .int p0), (2, .int p1), (3, .int p2)] := hl
  unfold fX7_det at hF
  refine W_Q (fun Q hQ => ?_)
  refine lv_aload_n hx hb dX7_det_0 rfl (lv_at hl 0 rfl) ?_
  refine va_get (D := (dC, dI)) (ci := 5) (v := .ref (a 7)) (C := RX7) (T := TX7) (N := 25) hx hb hts hinX7 hown hK hP 0 rfl rfl 9 (by decide) hf_33 (fun _ h9 => h9) rfl dX7_det_1 ?_
  refine lv_iload_n hx hb dX7_det_4 rfl (lv_at hl 2 rfl) ?_
  obtain ⟨hi, hF⟩ := ck_of hF
  refine va_lald hx hb hK hP 7 1 rfl rfl hi dX7_det_5 ?_
  refine lv_aload_n hx hb dX7_det_6 rfl (lv_at hl 0 rfl) ?_
  refine va_get (D := (dC, dI)) (ci := 5) (v := .ref (a 7)) (C := RX7) (T := TX7) (N := 25) hx hb hts hinX7 hown hK hP 0 rfl rfl 9 (by decide) hf_33 (fun _ h9 => h9) rfl dX7_det_7 ?_
  refine lv_iload_n hx hb dX7_det_10 rfl (lv_at hl 2 rfl) ?_
  refine lv_iconst (v := 1) hx hb dX7_det_11 (by decide) ?_
  refine lv_iadd hx hb dX7_det_12 ?_
  refine lv_topi (fun v_1 e_v_1 => ?_)
  have hF := nm_at hF e_v_1
  obtain ⟨hi, hF⟩ := ck_of hF
  refine va_lald hx hb hK hP 7 1 rfl rfl hi dX7_det_13 ?_
  refine lv_aload_n hx hb dX7_det_14 rfl (lv_at hl 0 rfl) ?_
  refine va_get (D := (dC, dI)) (ci := 5) (v := .ref (a 7)) (C := RX7) (T := TX7) (N := 25) hx hb hts hinX7 hown hK hP 0 rfl rfl 9 (by decide) hf_33 (fun _ h9 => h9) rfl dX7_det_15 ?_
  refine lv_iload_n hx hb dX7_det_18 rfl (lv_at hl 2 rfl) ?_
  refine lv_iconst (v := 2) hx hb dX7_det_19 (by decide) ?_
  refine lv_iadd hx hb dX7_det_20 ?_
  refine lv_topi (fun v_2 e_v_2 => ?_)
  have hF := nm_at hF e_v_2
  obtain ⟨hi, hF⟩ := ck_of hF
  refine va_lald hx hb hK hP 7 1 rfl rfl hi dX7_det_21 ?_
  refine lv_aload_n hx hb dX7_det_22 rfl (lv_at hl 0 rfl) ?_
  refine va_get (D := (dC, dI)) (ci := 5) (v := .ref (a 7)) (C := RX7) (T := TX7) (N := 25) hx hb hts hinX7 hown hK hP 0 rfl rfl 9 (by decide) hf_33 (fun _ h9 => h9) rfl dX7_det_23 ?_
  refine lv_iload_n hx hb dX7_det_26 rfl (lv_at hl 3 rfl) ?_
  obtain ⟨hi, hF⟩ := ck_of hF
  refine va_lald hx hb hK hP 7 1 rfl rfl hi dX7_det_27 ?_
  refine lv_aload_n hx hb dX7_det_28 rfl (lv_at hl 0 rfl) ?_
  refine va_get (D := (dC, dI)) (ci := 5) (v := .ref (a 7)) (C := RX7) (T := TX7) (N := 25) hx hb hts hinX7 hown hK hP 0 rfl rfl 9 (by decide) hf_33 (fun _ h9 => h9) rfl dX7_det_29 ?_
  refine lv_iload_n hx hb dX7_det_32 rfl (lv_at hl 3 rfl) ?_
  refine lv_iconst (v := 1) hx hb dX7_det_33 (by decide) ?_
  refine lv_iadd hx hb dX7_det_34 ?_
  refine lv_topi (fun v_3 e_v_3 => ?_)
  have hF := nm_at hF e_v_3
  obtain ⟨hi, hF⟩ := ck_of hF
  refine va_lald hx hb hK hP 7 1 rfl rfl hi dX7_det_35 ?_
  refine lv_aload_n hx hb dX7_det_36 rfl (lv_at hl 0 rfl) ?_
  refine va_get (D := (dC, dI)) (ci := 5) (v := .ref (a 7)) (C := RX7) (T := TX7) (N := 25) hx hb hts hinX7 hown hK hP 0 rfl rfl 9 (by decide) hf_33 (fun _ h9 => h9) rfl dX7_det_37 ?_
  refine lv_iload_n hx hb dX7_det_40 rfl (lv_at hl 3 rfl) ?_
  refine lv_iconst (v := 2) hx hb dX7_det_41 (by decide) ?_
  refine lv_iadd hx hb dX7_det_42 ?_
  refine lv_topi (fun v_4 e_v_4 => ?_)
  have hF := nm_at hF e_v_4
  obtain ⟨hi, hF⟩ := ck_of hF
  refine va_lald hx hb hK hP 7 1 rfl rfl hi dX7_det_43 ?_
  refine lv_iconst (v := 0) hx hb dX7_det_44 (by decide) ?_
  obtain ⟨r_5, hc, hF⟩ := bd1_of hF
  refine rc_l (va_runS (As := [.long (lists p1.toNatClampNeg), .long (lists v_1.toNatClampNeg), .long (lists v_2.toNatClampNeg), .long (lists p2.toNatClampNeg), .long (lists v_3.toNatClampNeg), .long (lists v_4.toNatClampNeg), .int (0 : Int32)]) (rest := []) ⟨hx, hb, hml, hown, hts⟩ (c_X7_cross l (lists p1.toNatClampNeg) (lists v_1.toNatClampNeg) (lists v_2.toNatClampNeg) (lists p2.toNatClampNeg) (lists v_3.toNatClampNeg) (lists v_4.toNatClampNeg) (0 : Int32) r_5 hc) (va_cwS 7 hts g_X7_det_X7_cross rfl rfl rfl (by decide +kernel) ⟨Nat.le_of_ble_eq_true rfl, Nat.le_of_ble_eq_true rfl⟩) ⟨tPc_blind, tPc_at⟩ rfl rfl hl.1 rfl (lv_room (Nat.le_of_ble_eq_true rfl)) dX7_det_45 ⟨Nat.zero_le _, Nat.zero_le _⟩) ?_
  refine lv_lstore (lv' := [(4, .long r_5), (0, .ref h), (1, .int p0), (2, .int p1), (3, .int p2)]) hx hb dX7_det_48 hl (by decide) rfl (fun ls hl => ?_)
  refine lv_aload_n hx hb dX7_det_50 rfl (lv_at hl 1 rfl) ?_
  refine va_get (D := (dC, dI)) (ci := 5) (v := .ref (a 7)) (C := RX7) (T := TX7) (N := 25) hx hb hts hinX7 hown hK hP 0 rfl rfl 9 (by decide) hf_33 (fun _ h9 => h9) rfl dX7_det_51 ?_
  refine lv_iload_n hx hb dX7_det_54 rfl (lv_at hl 3 rfl) ?_
  obtain ⟨hi, hF⟩ := ck_of hF
  refine va_lald hx hb hK hP 7 1 rfl rfl hi dX7_det_55 ?_
  refine lv_aload_n hx hb dX7_det_56 rfl (lv_at hl 1 rfl) ?_
  refine va_get (D := (dC, dI)) (ci := 5) (v := .ref (a 7)) (C := RX7) (T := TX7) (N := 25) hx hb hts hinX7 hown hK hP 0 rfl rfl 9 (by decide) hf_33 (fun _ h9 => h9) rfl dX7_det_57 ?_
  refine lv_iload_n hx hb dX7_det_60 rfl (lv_at hl 3 rfl) ?_
  refine lv_iconst (v := 1) hx hb dX7_det_61 (by decide) ?_
  refine lv_iadd hx hb dX7_det_62 ?_
  refine lv_topi (fun v_6 e_v_6 => ?_)
  have hF := nm_at hF e_v_6
  obtain ⟨hi, hF⟩ := ck_of hF
  refine va_lald hx hb hK hP 7 1 rfl rfl hi dX7_det_63 ?_
  refine lv_aload_n hx hb dX7_det_64 rfl (lv_at hl 1 rfl) ?_
  refine va_get (D := (dC, dI)) (ci := 5) (v := .ref (a 7)) (C := RX7) (T := TX7) (N := 25) hx hb hts hinX7 hown hK hP 0 rfl rfl 9 (by decide) hf_33 (fun _ h9 => h9) rfl dX7_det_65 ?_
  refine lv_iload_n hx hb dX7_det_68 rfl (lv_at hl 3 rfl) ?_
  refine lv_iconst (v := 2) hx hb dX7_det_69 (by decide) ?_
  refine lv_iadd hx hb dX7_det_70 ?_
  refine lv_topi (fun v_7 e_v_7 => ?_)
  have hF := nm_at hF e_v_7
  obtain ⟨hi, hF⟩ := ck_of hF
  refine va_lald hx hb hK hP 7 1 rfl rfl hi dX7_det_71 ?_
  refine lv_aload_n hx hb dX7_det_72 rfl (lv_at hl 1 rfl) ?_
  refine va_get (D := (dC, dI)) (ci := 5) (v := .ref (a 7)) (C := RX7) (T := TX7) (N := 25) hx hb hts hinX7 hown hK hP 0 rfl rfl 9 (by decide) hf_33 (fun _ h9 => h9) rfl dX7_det_73 ?_
  refine lv_iload_n hx hb dX7_det_76 rfl (lv_at hl 4 rfl) ?_
  obtain ⟨hi, hF⟩ := ck_of hF
  refine va_lald hx hb hK hP 7 1 rfl rfl hi dX7_det_77 ?_
  refine lv_aload_n hx hb dX7_det_78 rfl (lv_at hl 1 rfl) ?_
  refine va_get (D := (dC, dI)) (ci := 5) (v := .ref (a 7)) (C := RX7) (T := TX7) (N := 25) hx hb hts hinX7 hown hK hP 0 rfl rfl 9 (by decide) hf_33 (fun _ h9 => h9) rfl dX7_det_79 ?_
  refine lv_iload_n hx hb dX7_det_82 rfl (lv_at hl 4 rfl) ?_
  refine lv_iconst (v := 1) hx hb dX7_det_83 (by decide) ?_
  refine lv_iadd hx hb dX7_det_84 ?_
  refine lv_topi (fun v_8 e_v_8 => ?_)
  have hF := nm_at hF e_v_8
  obtain ⟨hi, hF⟩ := ck_of hF
  refine va_lald hx hb hK hP 7 1 rfl rfl hi dX7_det_85 ?_
  refine lv_aload_n hx hb dX7_det_86 rfl (lv_at hl 1 rfl) ?_
  refine va_get (D := (dC, dI)) (ci := 5) (v := .ref (a 7)) (C := RX7) (T := TX7) (N := 25) hx hb hts hinX7 hown hK hP 0 rfl rfl 9 (by decide) hf_33 (fun _ h9 => h9) rfl dX7_det_87 ?_
  refine lv_iload_n hx hb dX7_det_90 rfl (lv_at hl 4 rfl) ?_
  refine lv_iconst (v := 2) hx hb dX7_det_91 (by decide) ?_
  refine lv_iadd hx hb dX7_det_92 ?_
  refine lv_topi (fun v_9 e_v_9 => ?_)
  have hF := nm_at hF e_v_9
  obtain ⟨hi, hF⟩ := ck_of hF
  refine va_lald hx hb hK hP 7 1 rfl rfl hi dX7_det_93 ?_
  refine lv_iconst (v := 1) hx hb dX7_det_94 (by decide) ?_
  obtain ⟨r_10, hc, hF⟩ := bd1_of hF
  refine rc_l (va_runS (As := [.long (lists p1.toNatClampNeg), .long (lists v_6.toNatClampNeg), .long (lists v_7.toNatClampNeg), .long (lists p2.toNatClampNeg), .long (lists v_8.toNatClampNeg), .long (lists v_9.toNatClampNeg), .int (1 : Int32)]) (rest := []) ⟨hx, hb, hml, hown, hts⟩ (c_X7_cross l (lists p1.toNatClampNeg) (lists v_6.toNatClampNeg) (lists v_7.toNatClampNeg) (lists p2.toNatClampNeg) (lists v_8.toNatClampNeg) (lists v_9.toNatClampNeg) (1 : Int32) r_10 hc) (va_cwS 7 hts g_X7_det_X7_cross rfl rfl rfl (by decide +kernel) ⟨Nat.le_of_ble_eq_true rfl, Nat.le_of_ble_eq_true rfl⟩) ⟨tPc_blind, tPc_at⟩ rfl rfl hl.1 rfl (lv_room (Nat.le_of_ble_eq_true rfl)) dX7_det_95 ⟨Nat.zero_le _, Nat.zero_le _⟩) ?_
  refine lv_lstore (lv' := [(6, .long r_10), (4, .long r_5), (0, .ref h), (1, .int p0), (2, .int p1), (3, .int p2)]) hx hb dX7_det_98 hl (by decide) rfl (fun ls hl => ?_)
  refine lv_aload_n hx hb dX7_det_100 rfl (lv_at hl 2 rfl) ?_
  refine va_get (D := (dC, dI)) (ci := 5) (v := .ref (a 7)) (C := RX7) (T := TX7) (N := 25) hx hb hts hinX7 hown hK hP 0 rfl rfl 9 (by decide) hf_33 (fun _ h9 => h9) rfl dX7_det_101 ?_
  refine lv_iload_n hx hb dX7_det_104 rfl (lv_at hl 4 rfl) ?_
  obtain ⟨hi, hF⟩ := ck_of hF
  refine va_lald hx hb hK hP 7 1 rfl rfl hi dX7_det_105 ?_
  refine lv_aload_n hx hb dX7_det_106 rfl (lv_at hl 2 rfl) ?_
  refine va_get (D := (dC, dI)) (ci := 5) (v := .ref (a 7)) (C := RX7) (T := TX7) (N := 25) hx hb hts hinX7 hown hK hP 0 rfl rfl 9 (by decide) hf_33 (fun _ h9 => h9) rfl dX7_det_107 ?_
  refine lv_iload_n hx hb dX7_det_110 rfl (lv_at hl 4 rfl) ?_
  refine lv_iconst (v := 1) hx hb dX7_det_111 (by decide) ?_
  refine lv_iadd hx hb dX7_det_112 ?_
  refine lv_topi (fun v_11 e_v_11 => ?_)
  have hF := nm_at hF e_v_11
  obtain ⟨hi, hF⟩ := ck_of hF
  refine va_lald hx hb hK hP 7 1 rfl rfl hi dX7_det_113 ?_
  refine lv_aload_n hx hb dX7_det_114 rfl (lv_at hl 2 rfl) ?_
  refine va_get (D := (dC, dI)) (ci := 5) (v := .ref (a 7)) (C := RX7) (T := TX7) (N := 25) hx hb hts hinX7 hown hK hP 0 rfl rfl 9 (by decide) hf_33 (fun _ h9 => h9) rfl dX7_det_115 ?_
  refine lv_iload_n hx hb dX7_det_118 rfl (lv_at hl 4 rfl) ?_
  refine lv_iconst (v := 2) hx hb dX7_det_119 (by decide) ?_
  refine lv_iadd hx hb dX7_det_120 ?_
  refine lv_topi (fun v_12 e_v_12 => ?_)
  have hF := nm_at hF e_v_12
  obtain ⟨hi, hF⟩ := ck_of hF
  refine va_lald hx hb hK hP 7 1 rfl rfl hi dX7_det_121 ?_
  refine lv_aload_n hx hb dX7_det_122 rfl (lv_at hl 2 rfl) ?_
  refine va_get (D := (dC, dI)) (ci := 5) (v := .ref (a 7)) (C := RX7) (T := TX7) (N := 25) hx hb hts hinX7 hown hK hP 0 rfl rfl 9 (by decide) hf_33 (fun _ h9 => h9) rfl dX7_det_123 ?_
  refine lv_iload_n hx hb dX7_det_126 rfl (lv_at hl 5 rfl) ?_
  obtain ⟨hi, hF⟩ := ck_of hF
  refine va_lald hx hb hK hP 7 1 rfl rfl hi dX7_det_127 ?_
  refine lv_aload_n hx hb dX7_det_128 rfl (lv_at hl 2 rfl) ?_
  refine va_get (D := (dC, dI)) (ci := 5) (v := .ref (a 7)) (C := RX7) (T := TX7) (N := 25) hx hb hts hinX7 hown hK hP 0 rfl rfl 9 (by decide) hf_33 (fun _ h9 => h9) rfl dX7_det_129 ?_
  refine lv_iload_n hx hb dX7_det_132 rfl (lv_at hl 5 rfl) ?_
  refine lv_iconst (v := 1) hx hb dX7_det_133 (by decide) ?_
  refine lv_iadd hx hb dX7_det_134 ?_
  refine lv_topi (fun v_13 e_v_13 => ?_)
  have hF := nm_at hF e_v_13
  obtain ⟨hi, hF⟩ := ck_of hF
  refine va_lald hx hb hK hP 7 1 rfl rfl hi dX7_det_135 ?_
  refine lv_aload_n hx hb dX7_det_136 rfl (lv_at hl 2 rfl) ?_
  refine va_get (D := (dC, dI)) (ci := 5) (v := .ref (a 7)) (C := RX7) (T := TX7) (N := 25) hx hb hts hinX7 hown hK hP 0 rfl rfl 9 (by decide) hf_33 (fun _ h9 => h9) rfl dX7_det_137 ?_
  refine lv_iload_n hx hb dX7_det_140 rfl (lv_at hl 5 rfl) ?_
  refine lv_iconst (v := 2) hx hb dX7_det_141 (by decide) ?_
  refine lv_iadd hx hb dX7_det_142 ?_
  refine lv_topi (fun v_14 e_v_14 => ?_)
  have hF := nm_at hF e_v_14
  obtain ⟨hi, hF⟩ := ck_of hF
  refine va_lald hx hb hK hP 7 1 rfl rfl hi dX7_det_143 ?_
  refine lv_iconst (v := 2) hx hb dX7_det_144 (by decide) ?_
  obtain ⟨r_15, hc, hF⟩ := bd1_of hF
  refine rc_l (va_runS (As := [.long (lists p1.toNatClampNeg), .long (lists v_11.toNatClampNeg), .long (lists v_12.toNatClampNeg), .long (lists p2.toNatClampNeg), .long (lists v_13.toNatClampNeg), .long (lists v_14.toNatClampNeg), .int (2 : Int32)]) (rest := []) ⟨hx, hb, hml, hown, hts⟩ (c_X7_cross l (lists p1.toNatClampNeg) (lists v_11.toNatClampNeg) (lists v_12.toNatClampNeg) (lists p2.toNatClampNeg) (lists v_13.toNatClampNeg) (lists v_14.toNatClampNeg) (2 : Int32) r_15 hc) (va_cwS 7 hts g_X7_det_X7_cross rfl rfl rfl (by decide +kernel) ⟨Nat.le_of_ble_eq_true rfl, Nat.le_of_ble_eq_true rfl⟩) ⟨tPc_blind, tPc_at⟩ rfl rfl hl.1 rfl (lv_room (Nat.le_of_ble_eq_true rfl)) dX7_det_145 ⟨Nat.zero_le _, Nat.zero_le _⟩) ?_
  refine lv_lstore (lv' := [(8, .long r_15), (6, .long r_10), (4, .long r_5), (0, .ref h), (1, .int p0), (2, .int p1), (3, .int p2)]) hx hb dX7_det_148 hl (by decide) rfl (fun ls hl => ?_)
  refine lv_aload_n hx hb dX7_det_150 rfl (lv_at hl 3 rfl) ?_
  refine va_get (D := (dC, dI)) (ci := 5) (v := .ref (a 7)) (C := RX7) (T := TX7) (N := 25) hx hb hts hinX7 hown hK hP 0 rfl rfl 9 (by decide) hf_33 (fun _ h9 => h9) rfl dX7_det_151 ?_
  refine lv_iload_n hx hb dX7_det_154 rfl (lv_at hl 4 rfl) ?_
  obtain ⟨hi, hF⟩ := ck_of hF
  refine va_lald hx hb hK hP 7 1 rfl rfl hi dX7_det_155 ?_
  refine lv_lload hx hb dX7_det_156 (lv_at hl 2 rfl) ?_
  refine lv_lmul hx hb dX7_det_158 ?_
  refine lv_aload_n hx hb dX7_det_159 rfl (lv_at hl 3 rfl) ?_
  refine va_get (D := (dC, dI)) (ci := 5) (v := .ref (a 7)) (C := RX7) (T := TX7) (N := 25) hx hb hts hinX7 hown hK hP 0 rfl rfl 9 (by decide) hf_33 (fun _ h9 => h9) rfl dX7_det_160 ?_
  refine lv_iload_n hx hb dX7_det_163 rfl (lv_at hl 4 rfl) ?_
  refine lv_iconst (v := 1) hx hb dX7_det_164 (by decide) ?_
  refine lv_iadd hx hb dX7_det_165 ?_
  refine lv_topi (fun v_16 e_v_16 => ?_)
  have hF := nm_at hF e_v_16
  obtain ⟨hi, hF⟩ := ck_of hF
  refine va_lald hx hb hK hP 7 1 rfl rfl hi dX7_det_166 ?_
  refine lv_lload hx hb dX7_det_167 (lv_at hl 1 rfl) ?_
  refine lv_lmul hx hb dX7_det_169 ?_
  refine lv_ladd hx hb dX7_det_170 ?_
  refine lv_aload_n hx hb dX7_det_171 rfl (lv_at hl 3 rfl) ?_
  refine va_get (D := (dC, dI)) (ci := 5) (v := .ref (a 7)) (C := RX7) (T := TX7) (N := 25) hx hb hts hinX7 hown hK hP 0 rfl rfl 9 (by decide) hf_33 (fun _ h9 => h9) rfl dX7_det_172 ?_
  refine lv_iload_n hx hb dX7_det_175 rfl (lv_at hl 4 rfl) ?_
  refine lv_iconst (v := 2) hx hb dX7_det_176 (by decide) ?_
  refine lv_iadd hx hb dX7_det_177 ?_
  refine lv_topi (fun v_17 e_v_17 => ?_)
  have hF := nm_at hF e_v_17
  obtain ⟨hi, hF⟩ := ck_of hF
  refine va_lald hx hb hK hP 7 1 rfl rfl hi dX7_det_178 ?_
  refine lv_lload hx hb dX7_det_179 (lv_at hl 0 rfl) ?_
  refine lv_lmul hx hb dX7_det_181 ?_
  refine lv_ladd hx hb dX7_det_182 ?_
  refine lv_topl (fun v_18 e_v_18 => ?_)
  have hF := nm_at hF e_v_18
  have q0 := sm1 hF
  refine W_Qe hQ ?_
  exact W.lret hx hb hr (fun t ht hW => ⟨_, rfl, q0, ht⟩) (fun _ h9 => by cases h9) dX7_det_183
def fX7_touchIn (q : Nat → Int64) (lists : Nat → Int64) (p0 : Int32) (p1 : Int32) : Option (Int64) :=
  if okI p0 5400 then nm (p0 + (1 : Int32)) (fun (v_1 : Int32) => if okI v_1 5400 then nm (p0 + (2 : Int32)) (fun (v_2 : Int32) => if okI v_2 5400 then if okI p1 5400 then nm (p1 + (1 : Int32)) (fun (v_3 : Int32) => if okI v_3 5400 then nm (p1 + (2 : Int32)) (fun (v_4 : Int32) => if okI v_4 5400 then bd1 (fX7_touchOf q (lists p0.toNatClampNeg) (lists v_1.toNatClampNeg) (lists v_2.toNatClampNeg) (lists p1.toNatClampNeg) (lists v_3.toNatClampNeg) (lists v_4.toNatClampNeg)) (fun (r_5 : Int64) => some r_5) else none) else none) else none else none) else none) else none
def lkX7_touchIn : List Cond := [.fieldLink RX7 33 "KinFormsModel" "lists" "[J"]
def vX7_touchIn : List Cond := .code yX7_touchIn cX7_touchIn 3 (some .long) :: (lkX7_touchIn ++ (wsX70 ++ (wsV RX7 106 RX7 yX7_touchOf vX7_touchOf ++ ([]))))
theorem q_X7_touchIn : ∀ w ∈ vX7_touchIn, goodWord w = true := gd_cons rfl (gd_app (by decide +kernel) (gd_app q_wsX70 (gd_app (gd_V q_X7_touchOf) gd_nil)))
theorem g_X7_touchIn_X7_touchOf : GoodIn vX7_touchIn (wsV RX7 106 RX7 yX7_touchOf vX7_touchOf) := gi_of (fun w h => List.mem_cons_of_mem _ (List.mem_append_right _ (List.mem_append_right _ (List.mem_append_left _ h)))) (gd_V q_X7_touchOf)
abbrev rmX7_touchIn : Room := { frames := 2, cells := 0, slots := 0, locals := 58 }
set_option maxHeartbeats 4000000 in
set_option maxRecDepth 100000 in
theorem c_X7_touchIn (l : Launch) (dC : Nat → ClassId) (dI : Nat → Nat → Nat) (cI : ClassId) (cJ : ClassId) (h : Nat) (a : Nat → Nat) (forms : Int32) (prime : Int32) (turns : Int32) (lineT : Int32) (lineU : Int32) (kinds : Int32) (upper : Int64) (lower : Int64) (numbers : Nat → Int32) (q : Nat → Int64) (base : Nat → Int64) (least : Nat → Int64) (table : Nat → Int64) (rows : Nat → Int64) (lists : Nat → Int64) (listSize : Nat → Int32) (tried : Nat → Int64) (other : Nat → Int64) (line : Nat → Int64) (makers : Nat → Int64) (touches : Nat → Int64) (made : Nat → Int64) (kindForm : Nat → Int64) (kindTurns : Nat → Int32) (kindWays : Nat → Int32) (p0 : Int32) (p1 : Int32) (ro : Int64) (hF : fX7_touchIn q lists p0 p1 = some ro) : Met l yX7_touchIn vX7_touchIn rmX7_touchIn (va_Pc [.ref h, .int p0, .int p1] (rPc (dC, dI) vwCl (mW cI cJ h a forms prime turns lineT lineU kinds upper lower numbers q base least table rows lists listSize tried other line makers touches made kindForm kindTurns kindWays) [(cI, .int), (cJ, .long)])) (vp_Sl (fun x => x = ro)) 0 0 (fun _ => False) := by
  refine Met.ofW (cc := cX7_touchIn) (maxL := 3) (ret := (some .long)) (by decide) rfl ?_
  intro p e s m args below meth c s₁ B hml hv
  obtain ⟨rfl, hP, hK⟩ := hv
  have hx := B.exec
  have hb := B.bytes
  have hr := B.returns
  have hts := atoms_spec (ws := vX7_touchIn) B.pre
  have hlk : ∀ w ∈ lkX7_touchIn, w.before _ s = true := fun w h => hts w (List.mem_cons_of_mem _ (List.mem_append_left _ h))
  have hown : s.vm.findClass RX7 = some m.cls := findClass_of_methodNamed B.named
  have hlocks := B.notSynchronized
  have hinX7 : ∀ w ∈ wsX70, w ∈ vX7_touchIn := fun w h => List.mem_cons_of_mem _ (List.mem_append_right _ (List.mem_append_left _ h))
  have hf_33 := hlk (.fieldLink RX7 33 "KinFormsModel" "lists" "[J") (by decide +kernel)
  have hl := lv_entry ([.ref h, .int p0, .int p1] : List Value) (n := 3) (Nat.le_of_ble_eq_true rfl)
  rw [lg_entry_eq]
  generalize (lg_sl ([.ref h, .int p0, .int p1] : List Value) ++ List.replicate (3 - (lg_sl ([.ref h, .int p0, .int p1] : List Value)).length) Slot.unset).toArray = ls at hl ⊢
  have hl : lv_has ls 3 [(0, .ref h), (1, .int p0), (2, .int p1)] := hl
  unfold fX7_touchIn at hF
  refine W_Q (fun Q hQ => ?_)
  refine lv_aload_n hx hb dX7_touchIn_0 rfl (lv_at hl 0 rfl) ?_
  refine lv_aload_n hx hb dX7_touchIn_1 rfl (lv_at hl 0 rfl) ?_
  refine va_get (D := (dC, dI)) (ci := 5) (v := .ref (a 7)) (C := RX7) (T := TX7) (N := 25) hx hb hts hinX7 hown hK hP 0 rfl rfl 9 (by decide) hf_33 (fun _ h9 => h9) rfl dX7_touchIn_2 ?_
  refine lv_iload_n hx hb dX7_touchIn_5 rfl (lv_at hl 1 rfl) ?_
  obtain ⟨hi, hF⟩ := ck_of hF
  refine va_lald hx hb hK hP 7 1 rfl rfl hi dX7_touchIn_6 ?_
  refine lv_aload_n hx hb dX7_touchIn_7 rfl (lv_at hl 0 rfl) ?_
  refine va_get (D := (dC, dI)) (ci := 5) (v := .ref (a 7)) (C := RX7) (T := TX7) (N := 25) hx hb hts hinX7 hown hK hP 0 rfl rfl 9 (by decide) hf_33 (fun _ h9 => h9) rfl dX7_touchIn_8 ?_
  refine lv_iload_n hx hb dX7_touchIn_11 rfl (lv_at hl 1 rfl) ?_
  refine lv_iconst (v := 1) hx hb dX7_touchIn_12 (by decide) ?_
  refine lv_iadd hx hb dX7_touchIn_13 ?_
  refine lv_topi (fun v_1 e_v_1 => ?_)
  have hF := nm_at hF e_v_1
  obtain ⟨hi, hF⟩ := ck_of hF
  refine va_lald hx hb hK hP 7 1 rfl rfl hi dX7_touchIn_14 ?_
  refine lv_aload_n hx hb dX7_touchIn_15 rfl (lv_at hl 0 rfl) ?_
  refine va_get (D := (dC, dI)) (ci := 5) (v := .ref (a 7)) (C := RX7) (T := TX7) (N := 25) hx hb hts hinX7 hown hK hP 0 rfl rfl 9 (by decide) hf_33 (fun _ h9 => h9) rfl dX7_touchIn_16 ?_
  refine lv_iload_n hx hb dX7_touchIn_19 rfl (lv_at hl 1 rfl) ?_
  refine lv_iconst (v := 2) hx hb dX7_touchIn_20 (by decide) ?_
  refine lv_iadd hx hb dX7_touchIn_21 ?_
  refine lv_topi (fun v_2 e_v_2 => ?_)
  have hF := nm_at hF e_v_2
  obtain ⟨hi, hF⟩ := ck_of hF
  refine va_lald hx hb hK hP 7 1 rfl rfl hi dX7_touchIn_22 ?_
  refine lv_aload_n hx hb dX7_touchIn_23 rfl (lv_at hl 0 rfl) ?_
  refine va_get (D := (dC, dI)) (ci := 5) (v := .ref (a 7)) (C := RX7) (T := TX7) (N := 25) hx hb hts hinX7 hown hK hP 0 rfl rfl 9 (by decide) hf_33 (fun _ h9 => h9) rfl dX7_touchIn_24 ?_
  refine lv_iload_n hx hb dX7_touchIn_27 rfl (lv_at hl 2 rfl) ?_
  obtain ⟨hi, hF⟩ := ck_of hF
  refine va_lald hx hb hK hP 7 1 rfl rfl hi dX7_touchIn_28 ?_
  refine lv_aload_n hx hb dX7_touchIn_29 rfl (lv_at hl 0 rfl) ?_
  refine va_get (D := (dC, dI)) (ci := 5) (v := .ref (a 7)) (C := RX7) (T := TX7) (N := 25) hx hb hts hinX7 hown hK hP 0 rfl rfl 9 (by decide) hf_33 (fun _ h9 => h9) rfl dX7_touchIn_30 ?_
  refine lv_iload_n hx hb dX7_touchIn_33 rfl (lv_at hl 2 rfl) ?_
  refine lv_iconst (v := 1) hx hb dX7_touchIn_34 (by decide) ?_
  refine lv_iadd hx hb dX7_touchIn_35 ?_
  refine lv_topi (fun v_3 e_v_3 => ?_)
  have hF := nm_at hF e_v_3
  obtain ⟨hi, hF⟩ := ck_of hF
  refine va_lald hx hb hK hP 7 1 rfl rfl hi dX7_touchIn_36 ?_
  refine lv_aload_n hx hb dX7_touchIn_37 rfl (lv_at hl 0 rfl) ?_
  refine va_get (D := (dC, dI)) (ci := 5) (v := .ref (a 7)) (C := RX7) (T := TX7) (N := 25) hx hb hts hinX7 hown hK hP 0 rfl rfl 9 (by decide) hf_33 (fun _ h9 => h9) rfl dX7_touchIn_38 ?_
  refine lv_iload_n hx hb dX7_touchIn_41 rfl (lv_at hl 2 rfl) ?_
  refine lv_iconst (v := 2) hx hb dX7_touchIn_42 (by decide) ?_
  refine lv_iadd hx hb dX7_touchIn_43 ?_
  refine lv_topi (fun v_4 e_v_4 => ?_)
  have hF := nm_at hF e_v_4
  obtain ⟨hi, hF⟩ := ck_of hF
  refine va_lald hx hb hK hP 7 1 rfl rfl hi dX7_touchIn_44 ?_
  obtain ⟨r_5, hc, hF⟩ := bd1_of hF
  refine rc_l (va_runV (As := [.long (lists p0.toNatClampNeg), .long (lists v_1.toNatClampNeg), .long (lists v_2.toNatClampNeg), .long (lists p1.toNatClampNeg), .long (lists v_3.toNatClampNeg), .long (lists v_4.toNatClampNeg)]) (rest := []) ⟨hx, hb, hml, hown, hts⟩ (c_X7_touchOf l dC dI cI cJ h a forms prime turns lineT lineU kinds upper lower numbers q base least table rows lists listSize tried other line makers touches made kindForm kindTurns kindWays (lists p0.toNatClampNeg) (lists v_1.toNatClampNeg) (lists v_2.toNatClampNeg) (lists p1.toNatClampNeg) (lists v_3.toNatClampNeg) (lists v_4.toNatClampNeg) r_5 hc) (cwV 6 hts g_X7_touchIn_X7_touchOf rfl rfl rfl (by decide +kernel) ⟨Nat.le_of_ble_eq_true rfl, Nat.le_of_ble_eq_true rfl⟩) ⟨rPc_blind, va_recv hK hP (ci := 5) (q0 := 0) rfl rfl, rPc_at hK hP⟩ rfl rfl hl.1 rfl (lv_room (Nat.le_of_ble_eq_true rfl)) dX7_touchIn_45 ⟨Nat.zero_le _, Nat.zero_le _⟩) ?_
  have q0 := sm1 hF
  refine W_Qe hQ ?_
  exact W.lret hx hb hr (fun t ht hW => ⟨_, rfl, q0, ht⟩) (fun _ h9 => by cases h9) dX7_touchIn_48
def fX7_tryTable_L172 (k199 : (Nat → Int64) → Option ((Nat → Int64) × (Nat → Int64))) (tried_11 : Nat → Int64) : Nat → (Int32) → (Nat → Int64) → Option ((Nat → Int64) × (Nat → Int64))
  | 0, _, _ => none
  | n + 1, x5_15, table_16 => if (9 : Int32) ≤ x5_15 then ((k199 table_16)) else (if okI x5_15 9 then if okI x5_15 9 then nm (vp_updL table_16 x5_15.toNatClampNeg (tried_11 x5_15.toNatClampNeg)) (fun (table_17 : Nat → Int64) => nm (x5_15 + (1 : Int32)) (fun (x5_18 : Int32) => (fX7_tryTable_L172 k199 tried_11 n x5_18 table_17))) else none else none)
def fX7_tryTable_L112 (k143 : (Int32) → Option ((Nat → Int64) × (Nat → Int64))) (tried_11 : Nat → Int64) (table : Nat → Int64) : Nat → (Int32) → Option ((Nat → Int64) × (Nat → Int64))
  | 0, _ => none
  | n + 1, x4_12 => if (8 : Int32) ≤ x4_12 then ((k143 x4_12)) else (if okI x4_12 9 then if okI x4_12 9 then if (tried_11 x4_12.toNatClampNeg) = (table x4_12.toNatClampNeg) then (nm (x4_12 + (1 : Int32)) (fun (x4_13 : Int32) => (fX7_tryTable_L112 k143 tried_11 table n x4_13))) else ((k143 x4_12)) else none else none)
def fX7_tryTable_L3 (k109 : (Nat → Int64) → Option ((Nat → Int64) × (Nat → Int64))) (lists : Nat → Int64) (base : Nat → Int64) (p2 : Int32) (p1 : Int32) (p0 : Int32) : Nat → (Int32) → (Nat → Int64) → Option ((Nat → Int64) × (Nat → Int64))
  | 0, _, _ => none
  | n + 1, x4_1, tried_2 => if (9 : Int32) ≤ x4_1 then ((k109 tried_2)) else (nm (fun (s_3 : Int32) => if okI s_3 5400 then nm (x4_1 - x4_1 / (3 : Int32) * (3 : Int32)) (fun (v_4 : Int32) => if okI v_4 9 then nm (s_3 + (1 : Int32)) (fun (v_5 : Int32) => if okI v_5 5400 then nm ((3 : Int32) + (x4_1 - x4_1 / (3 : Int32) * (3 : Int32))) (fun (v_6 : Int32) => if okI v_6 9 then nm (s_3 + (2 : Int32)) (fun (v_7 : Int32) => if okI v_7 5400 then nm ((6 : Int32) + (x4_1 - x4_1 / (3 : Int32) * (3 : Int32))) (fun (v_8 : Int32) => if okI v_8 9 then if okI x4_1 9 then nm (vp_updL tried_2 x4_1.toNatClampNeg ((((lists s_3.toNatClampNeg) * (base v_4.toNatClampNeg)) + ((lists v_5.toNatClampNeg) * (base v_6.toNatClampNeg))) + ((lists v_7.toNatClampNeg) * (base v_8.toNatClampNeg)))) (fun (tried_9 : Nat → Int64) => nm (x4_1 + (1 : Int32)) (fun (x4_10 : Int32) => (fX7_tryTable_L3 k109 lists base p2 p1 p0 n x4_10 tried_9))) else none else none) else none) else none) else none) else none) else none) (fun (k32 : (Int32) → Option ((Nat → Int64) × (Nat → Int64))) => if (3 : Int32) ≤ x4_1 then (if (6 : Int32) ≤ x4_1 then ((k32 p2)) else ((k32 p1))) else ((k32 p0))))
def fX7_tryTable (fu : Nat) (turns : Int32) (base : Nat → Int64) (table : Nat → Int64) (lists : Nat → Int64) (tried : Nat → Int64) (p0 : Int32) (p1 : Int32) (p2 : Int32) : Option ((Nat → Int64) × (Nat → Int64)) :=
  nm (fun (tried_11 : Nat → Int64) => nm (fun (x4_14 : Int32) => nm (fun (table_19 : Nat → Int64) => some (table_19, tried_11)) (fun (k199 : (Nat → Int64) → Option ((Nat → Int64) × (Nat → Int64))) => nm ((fX7_tryTable_L172 k199 tried_11 fu (0 : Int32) table)) (fun (k169 : Option ((Nat → Int64) × (Nat → Int64))) => if turns = (1 : Int32) then ((k169)) else (if okI x4_14 9 then if okI x4_14 9 then if (table x4_14.toNatClampNeg) ≤ (tried_11 x4_14.toNatClampNeg) then ((k199 table)) else ((k169)) else none else none)))) (fun (k143 : (Int32) → Option ((Nat → Int64) × (Nat → Int64))) => (fX7_tryTable_L112 k143 tried_11 table fu (0 : Int32)))) (fun (k109 : (Nat → Int64) → Option ((Nat → Int64) × (Nat → Int64))) => (fX7_tryTable_L3 k109 lists base p2 p1 p0 fu (0 : Int32) tried))
def lkX7_tryTable : List Cond := [.fieldLink RX7 39 "KinFormsModel" "tried" "[J", .fieldLink RX7 33 "KinFormsModel" "lists" "[J", .fieldLink RX7 21 "KinFormsModel" "base" "[J", .fieldLink RX7 27 "KinFormsModel" "table" "[J", .fieldLink RX7 110 "KinFormsModel" "turns" "I"]
def vX7_tryTable : List Cond := .code yX7_tryTable cX7_tryTable 6 none :: (lkX7_tryTable ++ (wsX70 ++ ([])))
theorem q_X7_tryTable : ∀ w ∈ vX7_tryTable, goodWord w = true := gd_cons rfl (gd_app (by decide +kernel) (gd_app q_wsX70 gd_nil))
abbrev rmX7_tryTable : Room := { frames := 0, cells := 0, slots := 0, locals := 0 }
set_option maxHeartbeats 4000000 in
set_option maxRecDepth 100000 in
theorem c_X7_tryTable (l : Launch) (dC : Nat → ClassId) (dI : Nat → Nat → Nat) (cI : ClassId) (cJ : ClassId) (h : Nat) (a : Nat → Nat) (fu : Nat) (sz : Nat) (forms : Int32) (prime : Int32) (turns : Int32) (lineT : Int32) (lineU : Int32) (kinds : Int32) (upper : Int64) (lower : Int64) (numbers : Nat → Int32) (q : Nat → Int64) (base : Nat → Int64) (least : Nat → Int64) (table : Nat → Int64) (rows : Nat → Int64) (lists : Nat → Int64) (listSize : Nat → Int32) (tried : Nat → Int64) (other : Nat → Int64) (line : Nat → Int64) (makers : Nat → Int64) (touches : Nat → Int64) (made : Nat → Int64) (kindForm : Nat → Int64) (kindTurns : Nat → Int32) (kindWays : Nat → Int32) (p0 : Int32) (p1 : Int32) (p2 : Int32) (o_table : Nat → Int64) (o_tried : Nat → Int64) (hF : fX7_tryTable fu turns base table lists tried p0 p1 p2 = some (o_table, o_tried)) : Met l yX7_tryTable vX7_tryTable rmX7_tryTable (va_Pc [.ref h, .int p0, .int p1, .int p2] (mPc (dC, dI) vwCl (mW cI cJ h a forms prime turns lineT lineU kinds upper lower numbers q base least table rows lists listSize tried other line makers touches made kindForm kindTurns kindWays) [(cI, .int), (cJ, .long)] sz)) (va_Qv (fun (_ : Unit) => True) (mPo (dC, dI) vwCl (mW cI cJ h a forms prime turns lineT lineU kinds upper lower numbers q base least o_table rows lists listSize o_tried other line makers touches made kindForm kindTurns kindWays) [(cI, .int), (cJ, .long)] (va_A (mW cI cJ h a forms prime turns lineT lineU kinds upper lower numbers q base least table rows lists listSize tried other line makers touches made kindForm kindTurns kindWays) sz)) (va_A (mW cI cJ h a forms prime turns lineT lineU kinds upper lower numbers q base least table rows lists listSize tried other line makers touches made kindForm kindTurns kindWays) sz)) 0 0 (va_A (mW cI cJ h a forms prime turns lineT lineU kinds upper lower numbers q base least table rows lists listSize tried other line makers touches made kindForm kindTurns kindWays) sz) := by
  refine Met.ofW (cc := cX7_tryTable) (maxL := 6) (ret := none) (by decide) rfl ?_
  intro p e s m args below meth c s₁ B hml hv
  obtain ⟨rfl, hsz, hP, hK, hD0⟩ := hv
  have hx := B.exec
  have hb := B.bytes
  have hr := B.returns
  have hts := atoms_spec (ws := vX7_tryTable) B.pre
  have hlk : ∀ w ∈ lkX7_tryTable, w.before _ s = true := fun w h => hts w (List.mem_cons_of_mem _ (List.mem_append_left _ h))
  have hown : s.vm.findClass RX7 = some m.cls := findClass_of_methodNamed B.named
  have hlocks := B.notSynchronized
  subst hsz
  have hD := hD0.self (sz := s.heap.size)
  generalize hAe : va_A (mW cI cJ h a forms prime turns lineT lineU kinds upper lower numbers q base least table rows lists listSize tried other line makers touches made kindForm kindTurns kindWays) s.heap.size = A at hD ⊢
  have hA : ∀ q : Nat, s.heap.size ≤ q → A q := fun q h => by rw [← hAe]; exact Or.inr h
  have hS : va_S A s.heap s.heap [] := va_S.rf
  have hinX7 : ∀ w ∈ wsX70, w ∈ vX7_tryTable := fun w h => List.mem_cons_of_mem _ (List.mem_append_right _ (List.mem_append_left _ h))
  have hf_39 := hlk (.fieldLink RX7 39 "KinFormsModel" "tried" "[J") (by decide +kernel)
  have hf_33 := hlk (.fieldLink RX7 33 "KinFormsModel" "lists" "[J") (by decide +kernel)
  have hf_21 := hlk (.fieldLink RX7 21 "KinFormsModel" "base" "[J") (by decide +kernel)
  have hf_27 := hlk (.fieldLink RX7 27 "KinFormsModel" "table" "[J") (by decide +kernel)
  have hf_110 := hlk (.fieldLink RX7 110 "KinFormsModel" "turns" "I") (by decide +kernel)
  have hl := lv_entry ([.ref h, .int p0, .int p1, .int p2] : List Value) (n := 6) (Nat.le_of_ble_eq_true rfl)
  rw [lg_entry_eq]
  generalize (lg_sl ([.ref h, .int p0, .int p1, .int p2] : List Value) ++ List.replicate (6 - (lg_sl ([.ref h, .int p0, .int p1, .int p2] : List Value)).length) Slot.unset).toArray = ls at hl ⊢
  have hl : lv_has ls 6 [(0, .ref h), (1, .int p0), (2, .int p1), (3, .int p2)] := hl
  unfold fX7_tryTable at hF
  refine W_Q (fun Q hQ => ?_)
  have hP : va_P (dC, dI) vwCl (mW cI cJ h a forms prime turns lineT lineU kinds upper lower numbers q base least table rows lists listSize tried other line makers touches made kindForm kindTurns kindWays) s.heap := hP
  refine W_HL (fun H locs eH eL => ?_)
  rw [← eH] at hP
  have hS : va_S A s.heap H locs := by rw [eH, eL]; exact hS
  refine lv_iconst (v := 0) hx hb dX7_tryTable_0 (by decide) ?_
  refine lv_istore (lv' := [(4, .int (0 : Int32)), (0, .ref h), (1, .int p0), (2, .int p1), (3, .int p2)]) hx hb dX7_tryTable_1 hl (by decide) rfl (fun ls hl => ?_)
  obtain ⟨k109, e_k109, hF⟩ := nm_ex hF
  have hk109 : ∀ (tried_11 : Nat → Int64) (H : Heap) (locs : List Loc) (ls : Array Slot), va_P (dC, dI) vwCl (mW cI cJ h a forms prime turns lineT lineU kinds upper lower numbers q base least table rows lists listSize tried_11 other line makers touches made kindForm kindTurns kindWays) H → va_D A (mW cI cJ h a forms prime turns lineT lineU kinds upper lower numbers q base least table rows lists listSize tried_11 other line makers touches made kindForm kindTurns kindWays) → va_S A s.heap H locs → lv_has ls 6 [(0, .ref h)] → k109 tried_11 = some (o_table, o_tried) → W p l e rmX7_tryTable s m ([.ref h, .int p0, .int p1, .int p2] : List Value).toArray below meth c H locs 0 0 Q (F0 m 109 ls []) := by
    intro tried_11 H locs ls hP hD hS hl hF
    have hF := ka1 e_k109 hF
    refine lv_iconst (v := 0) hx hb dX7_tryTable_109 (by decide) ?_
    refine lv_istore (lv' := [(4, .int (0 : Int32)), (0, .ref h)]) hx hb dX7_tryTable_110 hl (by decide) rfl (fun ls hl => ?_)
    obtain ⟨k143, e_k143, hF⟩ := nm_ex hF
    have hk143 : ∀ (x4_14 : Int32) (H : Heap) (locs : List Loc) (ls : Array Slot), va_P (dC, dI) vwCl (mW cI cJ h a forms prime turns lineT lineU kinds upper lower numbers q base least table rows lists listSize tried_11 other line makers touches made kindForm kindTurns kindWays) H → va_D A (mW cI cJ h a forms prime turns lineT lineU kinds upper lower numbers q base least table rows lists listSize tried_11 other line makers touches made kindForm kindTurns kindWays) → va_S A s.heap H locs → lv_has ls 6 [(0, .ref h), (4, .int x4_14)] → k143 x4_14 = some (o_table, o_tried) → W p l e rmX7_tryTable s m ([.ref h, .int p0, .int p1, .int p2] : List Value).toArray below meth c H locs 0 0 Q (F0 m 143 ls []) := by
      intro x4_14 H locs ls hP hD hS hl hF
      have hF := ka1 e_k143 hF
      refine lv_aload_n hx hb dX7_tryTable_143 rfl (lv_at hl 0 rfl) ?_
      refine va_get (D := (dC, dI)) (ci := 5) (v := .int turns) (C := RX7) (T := TX7) (N := 25) hx hb hts hinX7 hown hK hP 0 rfl rfl 6 (by decide) hf_110 (fun _ h9 => h9) rfl dX7_tryTable_144 ?_
      refine lv_iconst (v := 1) hx hb dX7_tryTable_147 (by decide) ?_
      obtain ⟨k199, e_k199, hF⟩ := nm_ex hF
      have hk199 : ∀ (table_19 : Nat → Int64) (H : Heap) (locs : List Loc) (ls : Array Slot), va_P (dC, dI) vwCl (mW cI cJ h a forms prime turns lineT lineU kinds upper lower numbers q base least table_19 rows lists listSize tried_11 other line makers touches made kindForm kindTurns kindWays) H → va_D A (mW cI cJ h a forms prime turns lineT lineU kinds upper lower numbers q base least table_19 rows lists listSize tried_11 other line makers touches made kindForm kindTurns kindWays) → va_S A s.heap H locs → lv_has ls 6 [] → k199 table_19 = some (o_table, o_tried) → W p l e rmX7_tryTable s m ([.ref h, .int p0, .int p1, .int p2] : List Value).toArray below meth c H locs 0 0 Q (F0 m 199 ls []) := by
        intro table_19 H locs ls hP hD hS hl hF
        have hF := ka1 e_k199 hF
        obtain ⟨q0, q1⟩ := sm2 hF
        have hP : va_P (dC, dI) vwCl (mW cI cJ h a forms prime turns lineT lineU kinds upper lower numbers q base least o_table rows lists listSize o_tried other line makers touches made kindForm kindTurns kindWays) H := by rw [← q0, ← q1]; exact hP
        have hD : va_D A (mW cI cJ h a forms prime turns lineT lineU kinds upper lower numbers q base least o_table rows lists listSize o_tried other line makers touches made kindForm kindTurns kindWays) := by rw [← q0, ← q1]; exact hD
        refine W_Qe hQ ?_
        exact W.vret hx hb hr (fun t ht hW => ⟨⟨(), rfl, trivial, by rw [ht]; exact hP, va_K.moved hW.alike hK, hD⟩, hS.F ht⟩) hS.2.2 dX7_tryTable_199
      clear e_k199
      obtain ⟨k169, e_k169, hF⟩ := nm_ex hF
      have hk169 : ∀  (H : Heap) (locs : List Loc) (ls : Array Slot), va_P (dC, dI) vwCl (mW cI cJ h a forms prime turns lineT lineU kinds upper lower numbers q base least table rows lists listSize tried_11 other line makers touches made kindForm kindTurns kindWays) H → va_D A (mW cI cJ h a forms prime turns lineT lineU kinds upper lower numbers q base least table rows lists listSize tried_11 other line makers touches made kindForm kindTurns kindWays) → va_S A s.heap H locs → lv_has ls 6 [(0, .ref h)] → k169 = some (o_table, o_tried) → W p l e rmX7_tryTable s m ([.ref h, .int p0, .int p1, .int p2] : List Value).toArray below meth c H locs 0 0 Q (F0 m 169 ls []) := by
        intro H locs ls hP hD hS hl hF
        have hF := ka0 e_k169 hF
        refine lv_iconst (v := 0) hx hb dX7_tryTable_169 (by decide) ?_
        refine lv_istore (lv' := [(5, .int (0 : Int32)), (0, .ref h)]) hx hb dX7_tryTable_170 hl (by decide) rfl (fun ls hl => ?_)
        have hL172 : ∀ n : Nat, ∀ (x5_15 : Int32) (table_16 : Nat → Int64) (H : Heap) (locs : List Loc) (ls : Array Slot), va_P (dC, dI) vwCl (mW cI cJ h a forms prime turns lineT lineU kinds upper lower numbers q base least table_16 rows lists listSize tried_11 other line makers touches made kindForm kindTurns kindWays) H → va_D A (mW cI cJ h a forms prime turns lineT lineU kinds upper lower numbers q base least table_16 rows lists listSize tried_11 other line makers touches made kindForm kindTurns kindWays) → va_S A s.heap H locs → lv_has ls 6 [(0, .ref h), (5, .int x5_15)] → fX7_tryTable_L172 k199 tried_11 n x5_15 table_16 = some (o_table, o_tried) → W p l e rmX7_tryTable s m ([.ref h, .int p0, .int p1, .int p2] : List Value).toArray below meth c H locs 0 0 Q (F0 m 172 ls []) := by
          intro n
          induction n with
          | zero => intro x5_15 table_16 H locs ls hP hD hS hl hF; rw [fX7_tryTable_L172] at hF; cases hF
          | succ n ih172 =>
            intro x5_15 table_16 H locs ls hP hD hS hl hF
            rw [fX7_tryTable_L172] at hF
            refine lv_iload hx hb dX7_tryTable_172 (lv_at hl 1 rfl) ?_
            refine lv_bipush (v := (9)) hx hb dX7_tryTable_174 (by decide) ?_
            refine lv_icmp_ge (tgt := 199) hx hb dX7_tryTable_176 (by decide) (fun c0 => ?_) (fun c0 => ?_)
            · have hF := if_t hF c0
              exact hk199 table_16 H locs ls hP hD hS (lv_sub hl [] rfl) hF
            · have hF := if_f hF c0
              refine lv_aload_n hx hb dX7_tryTable_179 rfl (lv_at hl 0 rfl) ?_
              refine va_get (D := (dC, dI)) (ci := 5) (v := .ref (a 5)) (C := RX7) (T := TX7) (N := 25) hx hb hts hinX7 hown hK hP 0 rfl rfl 7 (by decide) hf_27 (fun _ h9 => h9) rfl dX7_tryTable_180 ?_
              refine lv_iload hx hb dX7_tryTable_183 (lv_at hl 1 rfl) ?_
              refine lv_aload_n hx hb dX7_tryTable_185 rfl (lv_at hl 0 rfl) ?_
              refine va_get (D := (dC, dI)) (ci := 5) (v := .ref (a 9)) (C := RX7) (T := TX7) (N := 25) hx hb hts hinX7 hown hK hP 0 rfl rfl 11 (by decide) hf_39 (fun _ h9 => h9) rfl dX7_tryTable_186 ?_
              refine lv_iload hx hb dX7_tryTable_189 (lv_at hl 1 rfl) ?_
              obtain ⟨hi, hF⟩ := ck_of hF
              refine va_lald hx hb hK hP 9 1 rfl rfl hi dX7_tryTable_191 ?_
              obtain ⟨hi, hF⟩ := ck_of hF
              obtain ⟨table_17, e_table_17, hF⟩ := nm_ex hF
              refine kc_last (j := x5_15.toNatClampNeg) (g := table_17) hx hb hK hP hD hS 5 1 rfl rfl rfl hi dX7_tryTable_192 e_table_17 (fun H locs hP hD hS => ?_)
              have hP : va_P (dC, dI) vwCl (mW cI cJ h a forms prime turns lineT lineU kinds upper lower numbers q base least table_17 rows lists listSize tried_11 other line makers touches made kindForm kindTurns kindWays) H := hP
              have hD : va_D A (mW cI cJ h a forms prime turns lineT lineU kinds upper lower numbers q base least table_17 rows lists listSize tried_11 other line makers touches made kindForm kindTurns kindWays) := hD
              obtain ⟨x5_18, e_x5_18, hF⟩ := nm_ex hF
              refine lv_iinc (v := x5_18) (lv' := [(5, .int x5_18), (0, .ref h)]) hx hb dX7_tryTable_193 hl (k := 1) rfl (by rw [e_x5_18]; rfl) (by decide) rfl (fun ls hl => ?_)
              refine lv_goto (tgt := 172) hx hb dX7_tryTable_196 (by decide) ?_
              exact ih172 x5_18 table_17 H locs ls hP hD hS (lv_sub hl [1, 0] rfl) hF
        exact hL172 fu (0 : Int32) table H locs ls hP hD hS (lv_sub hl [1, 0] rfl) hF
      clear e_k169
      refine lv_icmp_eq (tgt := 169) hx hb dX7_tryTable_148 (by decide) (fun c0 => ?_) (fun c0 => ?_)
      · have hF := if_t hF c0
        exact hk169 H locs ls hP hD hS (lv_sub hl [0] rfl) hF
      · have hF := if_f hF c0
        refine lv_aload_n hx hb dX7_tryTable_151 rfl (lv_at hl 0 rfl) ?_
        refine va_get (D := (dC, dI)) (ci := 5) (v := .ref (a 9)) (C := RX7) (T := TX7) (N := 25) hx hb hts hinX7 hown hK hP 0 rfl rfl 11 (by decide) hf_39 (fun _ h9 => h9) rfl dX7_tryTable_152 ?_
        refine lv_iload hx hb dX7_tryTable_155 (lv_at hl 1 rfl) ?_
        obtain ⟨hi, hF⟩ := ck_of hF
        refine va_lald hx hb hK hP 9 1 rfl rfl hi dX7_tryTable_157 ?_
        refine lv_aload_n hx hb dX7_tryTable_158 rfl (lv_at hl 0 rfl) ?_
        refine va_get (D := (dC, dI)) (ci := 5) (v := .ref (a 5)) (C := RX7) (T := TX7) (N := 25) hx hb hts hinX7 hown hK hP 0 rfl rfl 7 (by decide) hf_27 (fun _ h9 => h9) rfl dX7_tryTable_159 ?_
        refine lv_iload hx hb dX7_tryTable_162 (lv_at hl 1 rfl) ?_
        obtain ⟨hi, hF⟩ := ck_of hF
        refine va_lald hx hb hK hP 5 1 rfl rfl hi dX7_tryTable_164 ?_
        refine W.lcmp hx hb dX7_tryTable_165 ?_
        refine lv_if_ge (tgt := 199) hx hb dX7_tryTable_166 (by decide) (fun c0 => ?_) (fun c0 => ?_)
        · have c0 := (lg_cmp_ge _ _).mp c0
          have hF := if_t hF c0
          exact hk199 table H locs ls hP hD hS (lv_sub hl [] rfl) hF
        · have c0 := (not_congr (lg_cmp_ge _ _)).mp c0
          have hF := if_f hF c0
          exact hk169 H locs ls hP hD hS (lv_sub hl [0] rfl) hF
    clear e_k143
    have hL112 : ∀ n : Nat, ∀ (x4_12 : Int32) (H : Heap) (locs : List Loc) (ls : Array Slot), va_P (dC, dI) vwCl (mW cI cJ h a forms prime turns lineT lineU kinds upper lower numbers q base least table rows lists listSize tried_11 other line makers touches made kindForm kindTurns kindWays) H → va_D A (mW cI cJ h a forms prime turns lineT lineU kinds upper lower numbers q base least table rows lists listSize tried_11 other line makers touches made kindForm kindTurns kindWays) → va_S A s.heap H locs → lv_has ls 6 [(0, .ref h), (4, .int x4_12)] → fX7_tryTable_L112 k143 tried_11 table n x4_12 = some (o_table, o_tried) → W p l e rmX7_tryTable s m ([.ref h, .int p0, .int p1, .int p2] : List Value).toArray below meth c H locs 0 0 Q (F0 m 112 ls []) := by
      intro n
      induction n with
      | zero => intro x4_12 H locs ls hP hD hS hl hF; rw [fX7_tryTable_L112] at hF; cases hF
      | succ n ih112 =>
        intro x4_12 H locs ls hP hD hS hl hF
        rw [fX7_tryTable_L112] at hF
        refine lv_iload hx hb dX7_tryTable_112 (lv_at hl 1 rfl) ?_
        refine lv_bipush (v := (8)) hx hb dX7_tryTable_114 (by decide) ?_
        refine lv_icmp_ge (tgt := 143) hx hb dX7_tryTable_116 (by decide) (fun c0 => ?_) (fun c0 => ?_)
        · have hF := if_t hF c0
          exact hk143 x4_12 H locs ls hP hD hS (lv_sub hl [0, 1] rfl) hF
        · have hF := if_f hF c0
          refine lv_aload_n hx hb dX7_tryTable_119 rfl (lv_at hl 0 rfl) ?_
          refine va_get (D := (dC, dI)) (ci := 5) (v := .ref (a 9)) (C := RX7) (T := TX7) (N := 25) hx hb hts hinX7 hown hK hP 0 rfl rfl 11 (by decide) hf_39 (fun _ h9 => h9) rfl dX7_tryTable_120 ?_
          refine lv_iload hx hb dX7_tryTable_123 (lv_at hl 1 rfl) ?_
          obtain ⟨hi, hF⟩ := ck_of hF
          refine va_lald hx hb hK hP 9 1 rfl rfl hi dX7_tryTable_125 ?_
          refine lv_aload_n hx hb dX7_tryTable_126 rfl (lv_at hl 0 rfl) ?_
          refine va_get (D := (dC, dI)) (ci := 5) (v := .ref (a 5)) (C := RX7) (T := TX7) (N := 25) hx hb hts hinX7 hown hK hP 0 rfl rfl 7 (by decide) hf_27 (fun _ h9 => h9) rfl dX7_tryTable_127 ?_
          refine lv_iload hx hb dX7_tryTable_130 (lv_at hl 1 rfl) ?_
          obtain ⟨hi, hF⟩ := ck_of hF
          refine va_lald hx hb hK hP 5 1 rfl rfl hi dX7_tryTable_132 ?_
          refine W.lcmp hx hb dX7_tryTable_133 ?_
          refine lv_if_ne (tgt := 143) hx hb dX7_tryTable_134 (by decide) (fun c0 => ?_) (fun c0 => ?_)
          · have c0 := (not_congr (lg_cmp_eq _ _)).mp c0
            have hF := if_f hF c0
            exact hk143 x4_12 H locs ls hP hD hS (lv_sub hl [0, 1] rfl) hF
          · have c0 := (lg_cmp_eq _ _).mp c0
            have hF := if_t hF c0
            obtain ⟨x4_13, e_x4_13, hF⟩ := nm_ex hF
            refine lv_iinc (v := x4_13) (lv' := [(4, .int x4_13), (0, .ref h)]) hx hb dX7_tryTable_137 hl (k := 1) rfl (by rw [e_x4_13]; rfl) (by decide) rfl (fun ls hl => ?_)
            refine lv_goto (tgt := 112) hx hb dX7_tryTable_140 (by decide) ?_
            exact ih112 x4_13 H locs ls hP hD hS (lv_sub hl [1, 0] rfl) hF
    exact hL112 fu (0 : Int32) H locs ls hP hD hS (lv_sub hl [1, 0] rfl) hF
  clear e_k109
  have hL3 : ∀ n : Nat, ∀ (x4_1 : Int32) (tried_2 : Nat → Int64) (H : Heap) (locs : List Loc) (ls : Array Slot), va_P (dC, dI) vwCl (mW cI cJ h a forms prime turns lineT lineU kinds upper lower numbers q base least table rows lists listSize tried_2 other line makers touches made kindForm kindTurns kindWays) H → va_D A (mW cI cJ h a forms prime turns lineT lineU kinds upper lower numbers q base least table rows lists listSize tried_2 other line makers touches made kindForm kindTurns kindWays) → va_S A s.heap H locs → lv_has ls 6 [(0, .ref h), (1, .int p0), (2, .int p1), (3, .int p2), (4, .int x4_1)] → fX7_tryTable_L3 k109 lists base p2 p1 p0 n x4_1 tried_2 = some (o_table, o_tried) → W p l e rmX7_tryTable s m ([.ref h, .int p0, .int p1, .int p2] : List Value).toArray below meth c H locs 0 0 Q (F0 m 3 ls []) := by
    intro n
    induction n with
    | zero => intro x4_1 tried_2 H locs ls hP hD hS hl hF; rw [fX7_tryTable_L3] at hF; cases hF
    | succ n ih3 =>
      intro x4_1 tried_2 H locs ls hP hD hS hl hF
      rw [fX7_tryTable_L3] at hF
      refine lv_iload hx hb dX7_tryTable_3 (lv_at hl 4 rfl) ?_
      refine lv_bipush (v := (9)) hx hb dX7_tryTable_5 (by decide) ?_
      refine lv_icmp_ge (tgt := 109) hx hb dX7_tryTable_7 (by decide) (fun c0 => ?_) (fun c0 => ?_)
      · have hF := if_t hF c0
        exact hk109 tried_2 H locs ls hP hD hS (lv_sub hl [0] rfl) hF
      · have hF := if_f hF c0
        refine lv_iload hx hb dX7_tryTable_10 (lv_at hl 4 rfl) ?_
        refine lv_iconst (v := 3) hx hb dX7_tryTable_12 (by decide) ?_
        obtain ⟨k32, e_k32, hF⟩ := nm_ex hF
        have hk32 : ∀ (s_3 : Int32) (H : Heap) (locs : List Loc) (ls : Array Slot), va_P (dC, dI) vwCl (mW cI cJ h a forms prime turns lineT lineU kinds upper lower numbers q base least table rows lists listSize tried_2 other line makers touches made kindForm kindTurns kindWays) H → va_D A (mW cI cJ h a forms prime turns lineT lineU kinds upper lower numbers q base least table rows lists listSize tried_2 other line makers touches made kindForm kindTurns kindWays) → va_S A s.heap H locs → lv_has ls 6 [(0, .ref h), (1, .int p0), (2, .int p1), (3, .int p2), (4, .int x4_1)] → k32 s_3 = some (o_table, o_tried) → W p l e rmX7_tryTable s m ([.ref h, .int p0, .int p1, .int p2] : List Value).toArray below meth c H locs 0 0 Q (F0 m 32 ls [.int s_3]) := by
          intro s_3 H locs ls hP hD hS hl hF
          have hF := ka1 e_k32 hF
          refine lv_istore (lv' := [(5, .int s_3), (0, .ref h), (1, .int p0), (2, .int p1), (3, .int p2), (4, .int x4_1)]) hx hb dX7_tryTable_32 hl (by decide) rfl (fun ls hl => ?_)
          refine lv_aload_n hx hb dX7_tryTable_34 rfl (lv_at hl 1 rfl) ?_
          refine va_get (D := (dC, dI)) (ci := 5) (v := .ref (a 9)) (C := RX7) (T := TX7) (N := 25) hx hb hts hinX7 hown hK hP 0 rfl rfl 11 (by decide) hf_39 (fun _ h9 => h9) rfl dX7_tryTable_35 ?_
          refine lv_iload hx hb dX7_tryTable_38 (lv_at hl 5 rfl) ?_
          refine lv_aload_n hx hb dX7_tryTable_40 rfl (lv_at hl 1 rfl) ?_
          refine va_get (D := (dC, dI)) (ci := 5) (v := .ref (a 7)) (C := RX7) (T := TX7) (N := 25) hx hb hts hinX7 hown hK hP 0 rfl rfl 9 (by decide) hf_33 (fun _ h9 => h9) rfl dX7_tryTable_41 ?_
          refine lv_iload hx hb dX7_tryTable_44 (lv_at hl 0 rfl) ?_
          obtain ⟨hi, hF⟩ := ck_of hF
          refine va_lald hx hb hK hP 7 1 rfl rfl hi dX7_tryTable_46 ?_
          refine lv_aload_n hx hb dX7_tryTable_47 rfl (lv_at hl 1 rfl) ?_
          refine va_get (D := (dC, dI)) (ci := 5) (v := .ref (a 3)) (C := RX7) (T := TX7) (N := 25) hx hb hts hinX7 hown hK hP 0 rfl rfl 4 (by decide) hf_21 (fun _ h9 => h9) rfl dX7_tryTable_48 ?_
          refine lv_iload hx hb dX7_tryTable_51 (lv_at hl 5 rfl) ?_
          refine lv_iconst (v := 3) hx hb dX7_tryTable_53 (by decide) ?_
          refine lv_irem hx hb dX7_tryTable_54 (by decide) ?_
          refine lv_topi (fun v_4 e_v_4 => ?_)
          have hF := nm_at hF e_v_4
          obtain ⟨hi, hF⟩ := ck_of hF
          refine va_lald hx hb hK hP 3 1 rfl rfl hi dX7_tryTable_55 ?_
          refine lv_lmul hx hb dX7_tryTable_56 ?_
          refine lv_aload_n hx hb dX7_tryTable_57 rfl (lv_at hl 1 rfl) ?_
          refine va_get (D := (dC, dI)) (ci := 5) (v := .ref (a 7)) (C := RX7) (T := TX7) (N := 25) hx hb hts hinX7 hown hK hP 0 rfl rfl 9 (by decide) hf_33 (fun _ h9 => h9) rfl dX7_tryTable_58 ?_
          refine lv_iload hx hb dX7_tryTable_61 (lv_at hl 0 rfl) ?_
          refine lv_iconst (v := 1) hx hb dX7_tryTable_63 (by decide) ?_
          refine lv_iadd hx hb dX7_tryTable_64 ?_
          refine lv_topi (fun v_5 e_v_5 => ?_)
          have hF := nm_at hF e_v_5
          obtain ⟨hi, hF⟩ := ck_of hF
          refine va_lald hx hb hK hP 7 1 rfl rfl hi dX7_tryTable_65 ?_
          refine lv_aload_n hx hb dX7_tryTable_66 rfl (lv_at hl 1 rfl) ?_
          refine va_get (D := (dC, dI)) (ci := 5) (v := .ref (a 3)) (C := RX7) (T := TX7) (N := 25) hx hb hts hinX7 hown hK hP 0 rfl rfl 4 (by decide) hf_21 (fun _ h9 => h9) rfl dX7_tryTable_67 ?_
          refine lv_iconst (v := 3) hx hb dX7_tryTable_70 (by decide) ?_
          refine lv_iload hx hb dX7_tryTable_71 (lv_at hl 5 rfl) ?_
          refine lv_iconst (v := 3) hx hb dX7_tryTable_73 (by decide) ?_
          refine lv_irem hx hb dX7_tryTable_74 (by decide) ?_
          refine lv_iadd hx hb dX7_tryTable_75 ?_
          refine lv_topi (fun v_6 e_v_6 => ?_)
          have hF := nm_at hF e_v_6
          obtain ⟨hi, hF⟩ := ck_of hF
          refine va_lald hx hb hK hP 3 1 rfl rfl hi dX7_tryTable_76 ?_
          refine lv_lmul hx hb dX7_tryTable_77 ?_
          refine lv_ladd hx hb dX7_tryTable_78 ?_
          refine lv_aload_n hx hb dX7_tryTable_79 rfl (lv_at hl 1 rfl) ?_
          refine va_get (D := (dC, dI)) (ci := 5) (v := .ref (a 7)) (C := RX7) (T := TX7) (N := 25) hx hb hts hinX7 hown hK hP 0 rfl rfl 9 (by decide) hf_33 (fun _ h9 => h9) rfl dX7_tryTable_80 ?_
          refine lv_iload hx hb dX7_tryTable_83 (lv_at hl 0 rfl) ?_
          refine lv_iconst (v := 2) hx hb dX7_tryTable_85 (by decide) ?_
          refine lv_iadd hx hb dX7_tryTable_86 ?_
          refine lv_topi (fun v_7 e_v_7 => ?_)
          have hF := nm_at hF e_v_7
          obtain ⟨hi, hF⟩ := ck_of hF
          refine va_lald hx hb hK hP 7 1 rfl rfl hi dX7_tryTable_87 ?_
          refine lv_aload_n hx hb dX7_tryTable_88 rfl (lv_at hl 1 rfl) ?_
          refine va_get (D := (dC, dI)) (ci := 5) (v := .ref (a 3)) (C := RX7) (T := TX7) (N := 25) hx hb hts hinX7 hown hK hP 0 rfl rfl 4 (by decide) hf_21 (fun _ h9 => h9) rfl dX7_tryTable_89 ?_
          refine lv_bipush (v := (6)) hx hb dX7_tryTable_92 (by decide) ?_
          refine lv_iload hx hb dX7_tryTable_94 (lv_at hl 5 rfl) ?_
          refine lv_iconst (v := 3) hx hb dX7_tryTable_96 (by decide) ?_
          refine lv_irem hx hb dX7_tryTable_97 (by decide) ?_
          refine lv_iadd hx hb dX7_tryTable_98 ?_
          refine lv_topi (fun v_8 e_v_8 => ?_)
          have hF := nm_at hF e_v_8
          obtain ⟨hi, hF⟩ := ck_of hF
          refine va_lald hx hb hK hP 3 1 rfl rfl hi dX7_tryTable_99 ?_
          refine lv_lmul hx hb dX7_tryTable_100 ?_
          refine lv_ladd hx hb dX7_tryTable_101 ?_
          obtain ⟨hi, hF⟩ := ck_of hF
          obtain ⟨tried_9, e_tried_9, hF⟩ := nm_ex hF
          refine kc_last (j := x4_1.toNatClampNeg) (g := tried_9) hx hb hK hP hD hS 9 1 rfl rfl rfl hi dX7_tryTable_102 e_tried_9 (fun H locs hP hD hS => ?_)
          have hP : va_P (dC, dI) vwCl (mW cI cJ h a forms prime turns lineT lineU kinds upper lower numbers q base least table rows lists listSize tried_9 other line makers touches made kindForm kindTurns kindWays) H := hP
          have hD : va_D A (mW cI cJ h a forms prime turns lineT lineU kinds upper lower numbers q base least table rows lists listSize tried_9 other line makers touches made kindForm kindTurns kindWays) := hD
          obtain ⟨x4_10, e_x4_10, hF⟩ := nm_ex hF
          refine lv_iinc (v := x4_10) (lv' := [(4, .int x4_10), (5, .int s_3), (0, .ref h), (1, .int p0), (2, .int p1), (3, .int p2)]) hx hb dX7_tryTable_103 hl (k := 5) rfl (by rw [e_x4_10]; rfl) (by decide) rfl (fun ls hl => ?_)
          refine lv_goto (tgt := 3) hx hb dX7_tryTable_106 (by decide) ?_
          exact ih3 x4_10 tried_9 H locs ls hP hD hS (lv_sub hl [2, 3, 4, 5, 0] rfl) hF
        clear e_k32
        refine lv_icmp_ge (tgt := 20) hx hb dX7_tryTable_13 (by decide) (fun c0 => ?_) (fun c0 => ?_)
        · have hF := if_t hF c0
          refine lv_iload hx hb dX7_tryTable_20 (lv_at hl 4 rfl) ?_
          refine lv_bipush (v := (6)) hx hb dX7_tryTable_22 (by decide) ?_
          refine lv_icmp_ge (tgt := 31) hx hb dX7_tryTable_24 (by decide) (fun c0 => ?_) (fun c0 => ?_)
          · have hF := if_t hF c0
            refine lv_iload_n hx hb dX7_tryTable_31 rfl (lv_at hl 3 rfl) ?_
            exact hk32 p2 H locs ls hP hD hS (lv_sub hl [0, 1, 2, 3, 4] rfl) hF
          · have hF := if_f hF c0
            refine lv_iload_n hx hb dX7_tryTable_27 rfl (lv_at hl 2 rfl) ?_
            refine lv_goto (tgt := 32) hx hb dX7_tryTable_28 (by decide) ?_
            exact hk32 p1 H locs ls hP hD hS (lv_sub hl [0, 1, 2, 3, 4] rfl) hF
        · have hF := if_f hF c0
          refine lv_iload_n hx hb dX7_tryTable_16 rfl (lv_at hl 1 rfl) ?_
          refine lv_goto (tgt := 32) hx hb dX7_tryTable_17 (by decide) ?_
          exact hk32 p0 H locs ls hP hD hS (lv_sub hl [0, 1, 2, 3, 4] rfl) hF
  exact hL3 fu (0 : Int32) tried H locs ls hP hD hS (lv_sub hl [1, 2, 3, 4, 0] rfl) hF
def fX7_tryRows (fu : Nat) (turns : Int32) (q : Nat → Int64) (base : Nat → Int64) (least : Nat → Int64) (table : Nat → Int64) (lists : Nat → Int64) (tried : Nat → Int64) (p0 : Int32) (p1 : Int32) (p2 : Int32) : Option ((Int32) × (Nat → Int64) × (Nat → Int64) × (Nat → Int64)) :=
  bd1 (fX7_det lists p0 p1 p2) (fun (r_1 : Int64) => nm (bd1 (fX7_touchIn q lists p1 p2) (fun (r_2 : Int64) => bd1 (fX7_touchIn q lists p0 p2) (fun (r_3 : Int64) => bd1 (fX7_touchIn q lists p0 p1) (fun (r_4 : Int64) => nm (fun (s_5 : Int32) => nm (fun (s_6 : Int32) => nm (fun (s_7 : Int32) => nm (fun (turns_16 : Int32) (least_17 : Nat → Int64) (table_18 : Nat → Int64) (tried_19 : Nat → Int64) => some (turns_16, least_17, table_18, tried_19)) (fun (k250 : (Int32) → (Nat → Int64) → (Nat → Int64) → (Nat → Int64) → Option ((Int32) × (Nat → Int64) × (Nat → Int64) × (Nat → Int64))) => if s_7 = 0 then (if s_6 = 0 then ((k250 turns least table tried)) else (nm (turns + (1 : Int32)) (fun (turns_8 : Int32) => bd2 (fX7_tryTable fu turns_8 base table lists tried p0 p1 p2) (fun (table_9 : Nat → Int64) (tried_10 : Nat → Int64) => (k250 turns_8 least table_9 tried_10))))) else (nm (vp_updL least 3 r_2) (fun (least_11 : Nat → Int64) => nm (vp_updL least_11 4 r_3) (fun (least_12 : Nat → Int64) => nm (vp_updL least_12 5 r_4) (fun (least_13 : Nat → Int64) => bd2 (fX7_tryTable fu (1 : Int32) base table lists tried p0 p1 p2) (fun (table_14 : Nat → Int64) (tried_15 : Nat → Int64) => (k250 (1 : Int32) least_13 table_14 tried_15)))))))) (fun (k182 : (Int32) → Option ((Int32) × (Nat → Int64) × (Nat → Int64) × (Nat → Int64))) => nm ((k182 (1 : Int32))) (fun (k177 : Option ((Int32) × (Nat → Int64) × (Nat → Int64) × (Nat → Int64))) => if s_5 = 0 then (if r_2 < (least 3) then ((k177)) else (nm ((k182 (0 : Int32))) (fun (k181 : Option ((Int32) × (Nat → Int64) × (Nat → Int64) × (Nat → Int64))) => if r_2 = (least 3) then (if r_3 < (least 4) then ((k177)) else (if r_3 = (least 4) then (if (least 5) ≤ r_4 then ((k181)) else ((k177))) else ((k181)))) else ((k181))))) else ((k177))))) (fun (k110 : (Int32) → Option ((Int32) × (Nat → Int64) × (Nat → Int64) × (Nat → Int64))) => nm ((k110 (0 : Int32))) (fun (k109 : Option ((Int32) × (Nat → Int64) × (Nat → Int64) × (Nat → Int64))) => if s_5 = 0 then (if r_2 = (least 3) then (if r_3 = (least 4) then (if r_4 = (least 5) then ((k110 (1 : Int32))) else ((k109))) else ((k109))) else ((k109))) else ((k109))))) (fun (k62 : (Int32) → Option ((Int32) × (Nat → Int64) × (Nat → Int64) × (Nat → Int64))) => if turns = 0 then ((k62 (1 : Int32))) else ((k62 (0 : Int32)))))))) (fun (k26 : Option ((Int32) × (Nat → Int64) × (Nat → Int64) × (Nat → Int64))) => if r_1 = (1 : Int64) then ((k26)) else (if r_1 = (-1 : Int64) then ((k26)) else (some (turns, least, table, tried)))))
def lkX7_tryRows : List Cond := [.constantLong RX7 96 (-1), .fieldLink RX7 110 "KinFormsModel" "turns" "I", .fieldLink RX7 24 "KinFormsModel" "least" "[J"]
def vX7_tryRows : List Cond := .code yX7_tryRows cX7_tryRows 15 none :: (lkX7_tryRows ++ (wsX70 ++ (wsV RX7 113 RX7 yX7_det vX7_det ++ (wsV RX7 117 RX7 yX7_touchIn vX7_touchIn ++ (wsV RX7 121 RX7 yX7_tryTable vX7_tryTable ++ ([]))))))
theorem q_X7_tryRows : ∀ w ∈ vX7_tryRows, goodWord w = true := gd_cons rfl (gd_app (by decide +kernel) (gd_app q_wsX70 (gd_app (gd_V q_X7_det) (gd_app (gd_V q_X7_touchIn) (gd_app (gd_V q_X7_tryTable) gd_nil)))))
theorem g_X7_tryRows_X7_det : GoodIn vX7_tryRows (wsV RX7 113 RX7 yX7_det vX7_det) := gi_of (fun w h => List.mem_cons_of_mem _ (List.mem_append_right _ (List.mem_append_right _ (List.mem_append_left _ h)))) (gd_V q_X7_det)
theorem g_X7_tryRows_X7_touchIn : GoodIn vX7_tryRows (wsV RX7 117 RX7 yX7_touchIn vX7_touchIn) := gi_of (fun w h => List.mem_cons_of_mem _ (List.mem_append_right _ (List.mem_append_right _ (List.mem_append_right _ (List.mem_append_left _ h))))) (gd_V q_X7_touchIn)
theorem g_X7_tryRows_X7_tryTable : GoodIn vX7_tryRows (wsV RX7 121 RX7 yX7_tryTable vX7_tryTable) := gi_of (fun w h => List.mem_cons_of_mem _ (List.mem_append_right _ (List.mem_append_right _ (List.mem_append_right _ (List.mem_append_right _ (List.mem_append_left _ h)))))) (gd_V q_X7_tryTable)
abbrev rmX7_tryRows : Room := { frames := 3, cells := 0, slots := 0, locals := 80 }
set_option maxHeartbeats 4000000 in
set_option maxRecDepth 100000 in
theorem c_X7_tryRows (l : Launch) (dC : Nat → ClassId) (dI : Nat → Nat → Nat) (cI : ClassId) (cJ : ClassId) (h : Nat) (a : Nat → Nat) (fu : Nat) (sz : Nat) (forms : Int32) (prime : Int32) (turns : Int32) (lineT : Int32) (lineU : Int32) (kinds : Int32) (upper : Int64) (lower : Int64) (numbers : Nat → Int32) (q : Nat → Int64) (base : Nat → Int64) (least : Nat → Int64) (table : Nat → Int64) (rows : Nat → Int64) (lists : Nat → Int64) (listSize : Nat → Int32) (tried : Nat → Int64) (other : Nat → Int64) (line : Nat → Int64) (makers : Nat → Int64) (touches : Nat → Int64) (made : Nat → Int64) (kindForm : Nat → Int64) (kindTurns : Nat → Int32) (kindWays : Nat → Int32) (p0 : Int32) (p1 : Int32) (p2 : Int32) (o_turns : Int32) (o_least : Nat → Int64) (o_table : Nat → Int64) (o_tried : Nat → Int64) (hF : fX7_tryRows fu turns q base least table lists tried p0 p1 p2 = some (o_turns, o_least, o_table, o_tried)) : Met l yX7_tryRows vX7_tryRows rmX7_tryRows (va_Pc [.ref h, .int p0, .int p1, .int p2] (mPc (dC, dI) vwCl (mW cI cJ h a forms prime turns lineT lineU kinds upper lower numbers q base least table rows lists listSize tried other line makers touches made kindForm kindTurns kindWays) [(cI, .int), (cJ, .long)] sz)) (va_Qv (fun (_ : Unit) => True) (mPo (dC, dI) vwCl (mW cI cJ h a forms prime o_turns lineT lineU kinds upper lower numbers q base o_least o_table rows lists listSize o_tried other line makers touches made kindForm kindTurns kindWays) [(cI, .int), (cJ, .long)] (va_A (mW cI cJ h a forms prime turns lineT lineU kinds upper lower numbers q base least table rows lists listSize tried other line makers touches made kindForm kindTurns kindWays) sz)) (va_A (mW cI cJ h a forms prime turns lineT lineU kinds upper lower numbers q base least table rows lists listSize tried other line makers touches made kindForm kindTurns kindWays) sz)) 0 0 (va_A (mW cI cJ h a forms prime turns lineT lineU kinds upper lower numbers q base least table rows lists listSize tried other line makers touches made kindForm kindTurns kindWays) sz) := by
  refine Met.ofW (cc := cX7_tryRows) (maxL := 15) (ret := none) (by decide) rfl ?_
  intro p e s m args below meth c s₁ B hml hv
  obtain ⟨rfl, hsz, hP, hK, hD0⟩ := hv
  have hx := B.exec
  have hb := B.bytes
  have hr := B.returns
  have hts := atoms_spec (ws := vX7_tryRows) B.pre
  have hlk : ∀ w ∈ lkX7_tryRows, w.before _ s = true := fun w h => hts w (List.mem_cons_of_mem _ (List.mem_append_left _ h))
  have hown : s.vm.findClass RX7 = some m.cls := findClass_of_methodNamed B.named
  have hlocks := B.notSynchronized
  subst hsz
  have hD := hD0.self (sz := s.heap.size)
  generalize hAe : va_A (mW cI cJ h a forms prime turns lineT lineU kinds upper lower numbers q base least table rows lists listSize tried other line makers touches made kindForm kindTurns kindWays) s.heap.size = A at hD ⊢
  have hA : ∀ q : Nat, s.heap.size ≤ q → A q := fun q h => by rw [← hAe]; exact Or.inr h
  have hS : va_S A s.heap s.heap [] := va_S.rf
  have hinX7 : ∀ w ∈ wsX70, w ∈ vX7_tryRows := fun w h => List.mem_cons_of_mem _ (List.mem_append_right _ (List.mem_append_left _ h))
  have hf_110 := hlk (.fieldLink RX7 110 "KinFormsModel" "turns" "I") (by decide +kernel)
  have hf_24 := hlk (.fieldLink RX7 24 "KinFormsModel" "least" "[J") (by decide +kernel)
  have hl := lv_entry ([.ref h, .int p0, .int p1, .int p2] : List Value) (n := 15) (Nat.le_of_ble_eq_true rfl)
  rw [lg_entry_eq]
  generalize (lg_sl ([.ref h, .int p0, .int p1, .int p2] : List Value) ++ List.replicate (15 - (lg_sl ([.ref h, .int p0, .int p1, .int p2] : List Value)).length) Slot.unset).toArray = ls at hl ⊢
  have hl : lv_has ls 15 [(0, .ref h), (1, .int p0), (2, .int p1), (3, .int p2)] := hl
  unfold fX7_tryRows at hF
  refine W_Q (fun Q hQ => ?_)
  have hP : va_P (dC, dI) vwCl (mW cI cJ h a forms prime turns lineT lineU kinds upper lower numbers q base least table rows lists listSize tried other line makers touches made kindForm kindTurns kindWays) s.heap := hP
  refine W_HL (fun H locs eH eL => ?_)
  rw [← eH] at hP
  have hS : va_S A s.heap H locs := by rw [eH, eL]; exact hS
  refine lv_aload_n hx hb dX7_tryRows_0 rfl (lv_at hl 0 rfl) ?_
  refine lv_iload_n hx hb dX7_tryRows_1 rfl (lv_at hl 1 rfl) ?_
  refine lv_iload_n hx hb dX7_tryRows_2 rfl (lv_at hl 2 rfl) ?_
  refine lv_iload_n hx hb dX7_tryRows_3 rfl (lv_at hl 3 rfl) ?_
  obtain ⟨r_1, hc, hF⟩ := bd1_of hF
  refine rc_l (va_runV (As := [.int p0, .int p1, .int p2]) (rest := []) ⟨hx, hb, hml, hown, hts⟩ (c_X7_det l dC dI cI cJ h a forms prime turns lineT lineU kinds upper lower numbers q base least table rows lists listSize tried other line makers touches made kindForm kindTurns kindWays p0 p1 p2 r_1 hc) (cwV 3 hts g_X7_tryRows_X7_det rfl rfl rfl (by decide +kernel) ⟨Nat.le_of_ble_eq_true rfl, Nat.le_of_ble_eq_true rfl⟩) ⟨rPc_blind, va_recv hK hP (ci := 5) (q0 := 0) rfl rfl, rPc_at hK hP⟩ rfl rfl hl.1 rfl (lv_room (Nat.le_of_ble_eq_true rfl)) dX7_tryRows_4 ⟨Nat.zero_le _, Nat.zero_le _⟩) ?_
  refine lv_lstore (lv' := [(4, .long r_1), (0, .ref h), (1, .int p0), (2, .int p1), (3, .int p2)]) hx hb dX7_tryRows_7 hl (by decide) rfl (fun ls hl => ?_)
  refine lv_lload hx hb dX7_tryRows_9 (lv_at hl 0 rfl) ?_
  refine lv_lconst (v := 1) hx hb dX7_tryRows_11 (by decide) ?_
  refine W.lcmp hx hb dX7_tryRows_12 ?_
  obtain ⟨k26, e_k26, hF⟩ := nm_ex hF
  have hk26 : ∀  (H : Heap) (locs : List Loc) (ls : Array Slot), va_P (dC, dI) vwCl (mW cI cJ h a forms prime turns lineT lineU kinds upper lower numbers q base least table rows lists listSize tried other line makers touches made kindForm kindTurns kindWays) H → va_D A (mW cI cJ h a forms prime turns lineT lineU kinds upper lower numbers q base least table rows lists listSize tried other line makers touches made kindForm kindTurns kindWays) → va_S A s.heap H locs → lv_has ls 15 [(0, .ref h), (1, .int p0), (2, .int p1), (3, .int p2)] → k26 = some (o_turns, o_least, o_table, o_tried) → W p l e rmX7_tryRows s m ([.ref h, .int p0, .int p1, .int p2] : List Value).toArray below meth c H locs 0 0 Q (F0 m 26 ls []) := by
    intro H locs ls hP hD hS hl hF
    have hF := ka0 e_k26 hF
    refine lv_aload_n hx hb dX7_tryRows_26 rfl (lv_at hl 0 rfl) ?_
    refine lv_iload_n hx hb dX7_tryRows_27 rfl (lv_at hl 2 rfl) ?_
    refine lv_iload_n hx hb dX7_tryRows_28 rfl (lv_at hl 3 rfl) ?_
    obtain ⟨r_2, hc, hF⟩ := bd1_of hF
    refine rc_l (va_runV (As := [.int p1, .int p2]) (rest := []) ⟨hx, hb, hml, hown, hts⟩ (c_X7_touchIn l dC dI cI cJ h a forms prime turns lineT lineU kinds upper lower numbers q base least table rows lists listSize tried other line makers touches made kindForm kindTurns kindWays p1 p2 r_2 hc) (cwV 2 hts g_X7_tryRows_X7_touchIn rfl rfl rfl (by decide +kernel) ⟨Nat.le_of_ble_eq_true rfl, Nat.le_of_ble_eq_true rfl⟩) ⟨rPc_blind, va_recv hK hP (ci := 5) (q0 := 0) rfl rfl, rPc_at hK hP⟩ rfl rfl hl.1 rfl (lv_room (Nat.le_of_ble_eq_true rfl)) dX7_tryRows_29 ⟨Nat.zero_le _, Nat.zero_le _⟩) ?_
    refine lv_lstore (lv' := [(6, .long r_2), (0, .ref h), (1, .int p0), (2, .int p1), (3, .int p2)]) hx hb dX7_tryRows_32 hl (by decide) rfl (fun ls hl => ?_)
    refine lv_aload_n hx hb dX7_tryRows_34 rfl (lv_at hl 1 rfl) ?_
    refine lv_iload_n hx hb dX7_tryRows_35 rfl (lv_at hl 2 rfl) ?_
    refine lv_iload_n hx hb dX7_tryRows_36 rfl (lv_at hl 4 rfl) ?_
    obtain ⟨r_3, hc, hF⟩ := bd1_of hF
    refine rc_l (va_runV (As := [.int p0, .int p2]) (rest := []) ⟨hx, hb, hml, hown, hts⟩ (c_X7_touchIn l dC dI cI cJ h a forms prime turns lineT lineU kinds upper lower numbers q base least table rows lists listSize tried other line makers touches made kindForm kindTurns kindWays p0 p2 r_3 hc) (cwV 2 hts g_X7_tryRows_X7_touchIn rfl rfl rfl (by decide +kernel) ⟨Nat.le_of_ble_eq_true rfl, Nat.le_of_ble_eq_true rfl⟩) ⟨rPc_blind, va_recv hK hP (ci := 5) (q0 := 0) rfl rfl, rPc_at hK hP⟩ rfl rfl hl.1 rfl (lv_room (Nat.le_of_ble_eq_true rfl)) dX7_tryRows_37 ⟨Nat.zero_le _, Nat.zero_le _⟩) ?_
    refine lv_lstore (lv' := [(8, .long r_3), (6, .long r_2), (0, .ref h), (1, .int p0), (2, .int p1), (3, .int p2)]) hx hb dX7_tryRows_40 hl (by decide) rfl (fun ls hl => ?_)
    refine lv_aload_n hx hb dX7_tryRows_42 rfl (lv_at hl 2 rfl) ?_
    refine lv_iload_n hx hb dX7_tryRows_43 rfl (lv_at hl 3 rfl) ?_
    refine lv_iload_n hx hb dX7_tryRows_44 rfl (lv_at hl 4 rfl) ?_
    obtain ⟨r_4, hc, hF⟩ := bd1_of hF
    refine rc_l (va_runV (As := [.int p0, .int p1]) (rest := []) ⟨hx, hb, hml, hown, hts⟩ (c_X7_touchIn l dC dI cI cJ h a forms prime turns lineT lineU kinds upper lower numbers q base least table rows lists listSize tried other line makers touches made kindForm kindTurns kindWays p0 p1 r_4 hc) (cwV 2 hts g_X7_tryRows_X7_touchIn rfl rfl rfl (by decide +kernel) ⟨Nat.le_of_ble_eq_true rfl, Nat.le_of_ble_eq_true rfl⟩) ⟨rPc_blind, va_recv hK hP (ci := 5) (q0 := 0) rfl rfl, rPc_at hK hP⟩ rfl rfl hl.1 rfl (lv_room (Nat.le_of_ble_eq_true rfl)) dX7_tryRows_45 ⟨Nat.zero_le _, Nat.zero_le _⟩) ?_
    refine lv_lstore (lv' := [(10, .long r_4), (8, .long r_3), (6, .long r_2), (0, .ref h), (1, .int p0), (2, .int p1), (3, .int p2)]) hx hb dX7_tryRows_48 hl (by decide) rfl (fun ls hl => ?_)
    refine lv_aload_n hx hb dX7_tryRows_50 rfl (lv_at hl 3 rfl) ?_
    refine va_get (D := (dC, dI)) (ci := 5) (v := .int turns) (C := RX7) (T := TX7) (N := 25) hx hb hts hinX7 hown hK hP 0 rfl rfl 6 (by decide) hf_110 (fun _ h9 => h9) rfl dX7_tryRows_51 ?_
    obtain ⟨k62, e_k62, hF⟩ := nm_ex hF
    have hk62 : ∀ (s_5 : Int32) (H : Heap) (locs : List Loc) (ls : Array Slot), va_P (dC, dI) vwCl (mW cI cJ h a forms prime turns lineT lineU kinds upper lower numbers q base least table rows lists listSize tried other line makers touches made kindForm kindTurns kindWays) H → va_D A (mW cI cJ h a forms prime turns lineT lineU kinds upper lower numbers q base least table rows lists listSize tried other line makers touches made kindForm kindTurns kindWays) → va_S A s.heap H locs → lv_has ls 15 [(0, .ref h), (1, .int p0), (2, .int p1), (3, .int p2), (6, .long r_2), (8, .long r_3), (10, .long r_4)] → k62 s_5 = some (o_turns, o_least, o_table, o_tried) → W p l e rmX7_tryRows s m ([.ref h, .int p0, .int p1, .int p2] : List Value).toArray below meth c H locs 0 0 Q (F0 m 62 ls [.int s_5]) := by
      intro s_5 H locs ls hP hD hS hl hF
      have hF := ka1 e_k62 hF
      refine lv_istore (lv' := [(12, .int s_5), (0, .ref h), (1, .int p0), (2, .int p1), (3, .int p2), (6, .long r_2), (8, .long r_3), (10, .long r_4)]) hx hb dX7_tryRows_62 hl (by decide) rfl (fun ls hl => ?_)
      refine lv_iload hx hb dX7_tryRows_64 (lv_at hl 0 rfl) ?_
      obtain ⟨k110, e_k110, hF⟩ := nm_ex hF
      have hk110 : ∀ (s_6 : Int32) (H : Heap) (locs : List Loc) (ls : Array Slot), va_P (dC, dI) vwCl (mW cI cJ h a forms prime turns lineT lineU kinds upper lower numbers q base least table rows lists listSize tried other line makers touches made kindForm kindTurns kindWays) H → va_D A (mW cI cJ h a forms prime turns lineT lineU kinds upper lower numbers q base least table rows lists listSize tried other line makers touches made kindForm kindTurns kindWays) → va_S A s.heap H locs → lv_has ls 15 [(0, .ref h), (1, .int p0), (2, .int p1), (3, .int p2), (6, .long r_2), (8, .long r_3), (10, .long r_4), (12, .int s_5)] → k110 s_6 = some (o_turns, o_least, o_table, o_tried) → W p l e rmX7_tryRows s m ([.ref h, .int p0, .int p1, .int p2] : List Value).toArray below meth c H locs 0 0 Q (F0 m 110 ls [.int s_6]) := by
        intro s_6 H locs ls hP hD hS hl hF
        have hF := ka1 e_k110 hF
        refine lv_istore (lv' := [(13, .int s_6), (0, .ref h), (1, .int p0), (2, .int p1), (3, .int p2), (6, .long r_2), (8, .long r_3), (10, .long r_4), (12, .int s_5)]) hx hb dX7_tryRows_110 hl (by decide) rfl (fun ls hl => ?_)
        refine lv_iload hx hb dX7_tryRows_112 (lv_at hl 8 rfl) ?_
        obtain ⟨k182, e_k182, hF⟩ := nm_ex hF
        have hk182 : ∀ (s_7 : Int32) (H : Heap) (locs : List Loc) (ls : Array Slot), va_P (dC, dI) vwCl (mW cI cJ h a forms prime turns lineT lineU kinds upper lower numbers q base least table rows lists listSize tried other line makers touches made kindForm kindTurns kindWays) H → va_D A (mW cI cJ h a forms prime turns lineT lineU kinds upper lower numbers q base least table rows lists listSize tried other line makers touches made kindForm kindTurns kindWays) → va_S A s.heap H locs → lv_has ls 15 [(0, .ref h), (1, .int p0), (2, .int p1), (3, .int p2), (6, .long r_2), (8, .long r_3), (10, .long r_4), (13, .int s_6)] → k182 s_7 = some (o_turns, o_least, o_table, o_tried) → W p l e rmX7_tryRows s m ([.ref h, .int p0, .int p1, .int p2] : List Value).toArray below meth c H locs 0 0 Q (F0 m 182 ls [.int s_7]) := by
          intro s_7 H locs ls hP hD hS hl hF
          have hF := ka1 e_k182 hF
          refine lv_istore (lv' := [(14, .int s_7), (0, .ref h), (1, .int p0), (2, .int p1), (3, .int p2), (6, .long r_2), (8, .long r_3), (10, .long r_4), (13, .int s_6)]) hx hb dX7_tryRows_182 hl (by decide) rfl (fun ls hl => ?_)
          refine lv_iload hx hb dX7_tryRows_184 (lv_at hl 0 rfl) ?_
          obtain ⟨k250, e_k250, hF⟩ := nm_ex hF
          have hk250 : ∀ (turns_16 : Int32) (least_17 : Nat → Int64) (table_18 : Nat → Int64) (tried_19 : Nat → Int64) (H : Heap) (locs : List Loc) (ls : Array Slot), va_P (dC, dI) vwCl (mW cI cJ h a forms prime turns_16 lineT lineU kinds upper lower numbers q base least_17 table_18 rows lists listSize tried_19 other line makers touches made kindForm kindTurns kindWays) H → va_D A (mW cI cJ h a forms prime turns_16 lineT lineU kinds upper lower numbers q base least_17 table_18 rows lists listSize tried_19 other line makers touches made kindForm kindTurns kindWays) → va_S A s.heap H locs → lv_has ls 15 [] → k250 turns_16 least_17 table_18 tried_19 = some (o_turns, o_least, o_table, o_tried) → W p l e rmX7_tryRows s m ([.ref h, .int p0, .int p1, .int p2] : List Value).toArray below meth c H locs 0 0 Q (F0 m 250 ls []) := by
            intro turns_16 least_17 table_18 tried_19 H locs ls hP hD hS hl hF
            have hF := ka4 e_k250 hF
            obtain ⟨q0, q1, q2, q3⟩ := sm4 hF
            have hP : va_P (dC, dI) vwCl (mW cI cJ h a forms prime o_turns lineT lineU kinds upper lower numbers q base o_least o_table rows lists listSize o_tried other line makers touches made kindForm kindTurns kindWays) H := by rw [← q0, ← q1, ← q2, ← q3]; exact hP
            have hD : va_D A (mW cI cJ h a forms prime o_turns lineT lineU kinds upper lower numbers q base o_least o_table rows lists listSize o_tried other line makers touches made kindForm kindTurns kindWays) := by rw [← q0, ← q1, ← q2, ← q3]; exact hD
            refine W_Qe hQ ?_
            exact W.vret hx hb hr (fun t ht hW => ⟨⟨(), rfl, trivial, by rw [ht]; exact hP, va_K.moved hW.alike hK, hD⟩, hS.F ht⟩) hS.2.2 dX7_tryRows_250
          clear e_k250
          refine lv_if_eq (tgt := 228) hx hb dX7_tryRows_186 (by decide) (fun c0 => ?_) (fun c0 => ?_)
          · have hF := if_t hF c0
            refine lv_iload hx hb dX7_tryRows_228 (lv_at hl 8 rfl) ?_
            refine lv_if_eq (tgt := 250) hx hb dX7_tryRows_230 (by decide) (fun c0 => ?_) (fun c0 => ?_)
            · have hF := if_t hF c0
              exact hk250 turns least table tried H locs ls hP hD hS (lv_sub hl [] rfl) hF
            · have hF := if_f hF c0
              refine lv_aload_n hx hb dX7_tryRows_233 rfl (lv_at hl 1 rfl) ?_
              refine lv_dup hx hb dX7_tryRows_234 rfl ?_
              refine va_get (D := (dC, dI)) (ci := 5) (v := .int turns) (C := RX7) (T := TX7) (N := 25) hx hb hts hinX7 hown hK hP 0 rfl rfl 6 (by decide) hf_110 (fun _ h9 => h9) rfl dX7_tryRows_235 ?_
              refine lv_iconst (v := 1) hx hb dX7_tryRows_238 (by decide) ?_
              refine lv_iadd hx hb dX7_tryRows_239 ?_
              refine lv_topi (fun turns_8 e_turns_8 => ?_)
              have hF := nm_at hF e_turns_8
              refine va_put (D := (dC, dI)) (ci := 5) (v := .int turns_8) (ty := .int) (C := RX7) (T := TX7) (N := 25) hx hb hts hinX7 tyX7 tyX7_ok nmX7 hown hK hP hD hS 0 rfl rfl 6 (by decide) hf_110 (fun _ h9 => h9) rfl (by decide +kernel) rfl rfl (Nat.le_of_ble_eq_true rfl) dX7_tryRows_240 (fun H locs hP hD hS => ?_)
              have hP : va_P (dC, dI) vwCl (mW cI cJ h a forms prime turns_8 lineT lineU kinds upper lower numbers q base least table rows lists listSize tried other line makers touches made kindForm kindTurns kindWays) H := hP
              have hD : va_D A (mW cI cJ h a forms prime turns_8 lineT lineU kinds upper lower numbers q base least table rows lists listSize tried other line makers touches made kindForm kindTurns kindWays) := hD
              refine lv_aload_n hx hb dX7_tryRows_243 rfl (lv_at hl 1 rfl) ?_
              refine lv_iload_n hx hb dX7_tryRows_244 rfl (lv_at hl 2 rfl) ?_
              refine lv_iload_n hx hb dX7_tryRows_245 rfl (lv_at hl 3 rfl) ?_
              refine lv_iload_n hx hb dX7_tryRows_246 rfl (lv_at hl 4 rfl) ?_
              obtain ⟨table_9, tried_10, hc, hF⟩ := bd2_of hF
              refine mc_v (va_runV (As := [.int p0, .int p1, .int p2]) (rest := []) ⟨hx, hb, hml, hown, hts⟩ (c_X7_tryTable l dC dI cI cJ h a fu H.size forms prime turns_8 lineT lineU kinds upper lower numbers q base least table rows lists listSize tried other line makers touches made kindForm kindTurns kindWays p0 p1 p2 table_9 tried_10 hc) (cwV 3 hts g_X7_tryRows_X7_tryTable rfl rfl rfl (by decide +kernel) ⟨Nat.le_of_ble_eq_true rfl, Nat.le_of_ble_eq_true rfl⟩) ⟨mPc_blind, va_recv hK hP (ci := 5) (q0 := 0) rfl rfl, mPc_at hK hP hD⟩ rfl rfl hl.1 rfl (lv_room (Nat.le_of_ble_eq_true rfl)) dX7_tryRows_247 ⟨Nat.zero_le _, Nat.zero_le _⟩) hS (fr_all hD hS hA) (fun H locs hP hD hS => ?_)
              exact hk250 turns_8 least table_9 tried_10 H locs ls hP hD hS (lv_sub hl [] rfl) hF
          · have hF := if_f hF c0
            refine lv_aload_n hx hb dX7_tryRows_189 rfl (lv_at hl 1 rfl) ?_
            refine va_get (D := (dC, dI)) (ci := 5) (v := .ref (a 4)) (C := RX7) (T := TX7) (N := 25) hx hb hts hinX7 hown hK hP 0 rfl rfl 5 (by decide) hf_24 (fun _ h9 => h9) rfl dX7_tryRows_190 ?_
            refine lv_iconst (v := 3) hx hb dX7_tryRows_193 (by decide) ?_
            refine lv_lload hx hb dX7_tryRows_194 (lv_at hl 5 rfl) ?_
            obtain ⟨least_11, e_least_11, hF⟩ := nm_ex hF
            refine kc_last (j := 3) (g := least_11) hx hb hK hP hD hS 4 1 rfl rfl (by decide) (by decide) dX7_tryRows_196 e_least_11 (fun H locs hP hD hS => ?_)
            have hP : va_P (dC, dI) vwCl (mW cI cJ h a forms prime turns lineT lineU kinds upper lower numbers q base least_11 table rows lists listSize tried other line makers touches made kindForm kindTurns kindWays) H := hP
            have hD : va_D A (mW cI cJ h a forms prime turns lineT lineU kinds upper lower numbers q base least_11 table rows lists listSize tried other line makers touches made kindForm kindTurns kindWays) := hD
            refine lv_aload_n hx hb dX7_tryRows_197 rfl (lv_at hl 1 rfl) ?_
            refine va_get (D := (dC, dI)) (ci := 5) (v := .ref (a 4)) (C := RX7) (T := TX7) (N := 25) hx hb hts hinX7 hown hK hP 0 rfl rfl 5 (by decide) hf_24 (fun _ h9 => h9) rfl dX7_tryRows_198 ?_
            refine lv_iconst (v := 4) hx hb dX7_tryRows_201 (by decide) ?_
            refine lv_lload hx hb dX7_tryRows_202 (lv_at hl 6 rfl) ?_
            obtain ⟨least_12, e_least_12, hF⟩ := nm_ex hF
            refine kc_last (j := 4) (g := least_12) hx hb hK hP hD hS 4 1 rfl rfl (by decide) (by decide) dX7_tryRows_204 e_least_12 (fun H locs hP hD hS => ?_)
            have hP : va_P (dC, dI) vwCl (mW cI cJ h a forms prime turns lineT lineU kinds upper lower numbers q base least_12 table rows lists listSize tried other line makers touches made kindForm kindTurns kindWays) H := hP
            have hD : va_D A (mW cI cJ h a forms prime turns lineT lineU kinds upper lower numbers q base least_12 table rows lists listSize tried other line makers touches made kindForm kindTurns kindWays) := hD
            refine lv_aload_n hx hb dX7_tryRows_205 rfl (lv_at hl 1 rfl) ?_
            refine va_get (D := (dC, dI)) (ci := 5) (v := .ref (a 4)) (C := RX7) (T := TX7) (N := 25) hx hb hts hinX7 hown hK hP 0 rfl rfl 5 (by decide) hf_24 (fun _ h9 => h9) rfl dX7_tryRows_206 ?_
            refine lv_iconst (v := 5) hx hb dX7_tryRows_209 (by decide) ?_
            refine lv_lload hx hb dX7_tryRows_210 (lv_at hl 7 rfl) ?_
            obtain ⟨least_13, e_least_13, hF⟩ := nm_ex hF
            refine kc_last (j := 5) (g := least_13) hx hb hK hP hD hS 4 1 rfl rfl (by decide) (by decide) dX7_tryRows_212 e_least_13 (fun H locs hP hD hS => ?_)
            have hP : va_P (dC, dI) vwCl (mW cI cJ h a forms prime turns lineT lineU kinds upper lower numbers q base least_13 table rows lists listSize tried other line makers touches made kindForm kindTurns kindWays) H := hP
            have hD : va_D A (mW cI cJ h a forms prime turns lineT lineU kinds upper lower numbers q base least_13 table rows lists listSize tried other line makers touches made kindForm kindTurns kindWays) := hD
            refine lv_aload_n hx hb dX7_tryRows_213 rfl (lv_at hl 1 rfl) ?_
            refine lv_iconst (v := 1) hx hb dX7_tryRows_214 (by decide) ?_
            refine va_put (D := (dC, dI)) (ci := 5) (v := .int (1 : Int32)) (ty := .int) (C := RX7) (T := TX7) (N := 25) hx hb hts hinX7 tyX7 tyX7_ok nmX7 hown hK hP hD hS 0 rfl rfl 6 (by decide) hf_110 (fun _ h9 => h9) rfl (by decide +kernel) rfl rfl (Nat.le_of_ble_eq_true rfl) dX7_tryRows_215 (fun H locs hP hD hS => ?_)
            have hP : va_P (dC, dI) vwCl (mW cI cJ h a forms prime (1 : Int32) lineT lineU kinds upper lower numbers q base least_13 table rows lists listSize tried other line makers touches made kindForm kindTurns kindWays) H := hP
            have hD : va_D A (mW cI cJ h a forms prime (1 : Int32) lineT lineU kinds upper lower numbers q base least_13 table rows lists listSize tried other line makers touches made kindForm kindTurns kindWays) := hD
            refine lv_aload_n hx hb dX7_tryRows_218 rfl (lv_at hl 1 rfl) ?_
            refine lv_iload_n hx hb dX7_tryRows_219 rfl (lv_at hl 2 rfl) ?_
            refine lv_iload_n hx hb dX7_tryRows_220 rfl (lv_at hl 3 rfl) ?_
            refine lv_iload_n hx hb dX7_tryRows_221 rfl (lv_at hl 4 rfl) ?_
            obtain ⟨table_14, tried_15, hc, hF⟩ := bd2_of hF
            refine mc_v (va_runV (As := [.int p0, .int p1, .int p2]) (rest := []) ⟨hx, hb, hml, hown, hts⟩ (c_X7_tryTable l dC dI cI cJ h a fu H.size forms prime (1 : Int32) lineT lineU kinds upper lower numbers q base least_13 table rows lists listSize tried other line makers touches made kindForm kindTurns kindWays p0 p1 p2 table_14 tried_15 hc) (cwV 3 hts g_X7_tryRows_X7_tryTable rfl rfl rfl (by decide +kernel) ⟨Nat.le_of_ble_eq_true rfl, Nat.le_of_ble_eq_true rfl⟩) ⟨mPc_blind, va_recv hK hP (ci := 5) (q0 := 0) rfl rfl, mPc_at hK hP hD⟩ rfl rfl hl.1 rfl (lv_room (Nat.le_of_ble_eq_true rfl)) dX7_tryRows_222 ⟨Nat.zero_le _, Nat.zero_le _⟩) hS (fr_all hD hS hA) (fun H locs hP hD hS => ?_)
            refine lv_goto (tgt := 250) hx hb dX7_tryRows_225 (by decide) ?_
            exact hk250 (1 : Int32) least_13 table_14 tried_15 H locs ls hP hD hS (lv_sub hl [] rfl) hF
        clear e_k182
        obtain ⟨k177, e_k177, hF⟩ := nm_ex hF
        have hk177 : ∀  (H : Heap) (locs : List Loc) (ls : Array Slot), va_P (dC, dI) vwCl (mW cI cJ h a forms prime turns lineT lineU kinds upper lower numbers q base least table rows lists listSize tried other line makers touches made kindForm kindTurns kindWays) H → va_D A (mW cI cJ h a forms prime turns lineT lineU kinds upper lower numbers q base least table rows lists listSize tried other line makers touches made kindForm kindTurns kindWays) → va_S A s.heap H locs → lv_has ls 15 [(0, .ref h), (1, .int p0), (2, .int p1), (3, .int p2), (6, .long r_2), (8, .long r_3), (10, .long r_4), (13, .int s_6)] → k177 = some (o_turns, o_least, o_table, o_tried) → W p l e rmX7_tryRows s m ([.ref h, .int p0, .int p1, .int p2] : List Value).toArray below meth c H locs 0 0 Q (F0 m 177 ls []) := by
          intro H locs ls hP hD hS hl hF
          have hF := ka0 e_k177 hF
          refine lv_iconst (v := 1) hx hb dX7_tryRows_177 (by decide) ?_
          refine lv_goto (tgt := 182) hx hb dX7_tryRows_178 (by decide) ?_
          exact hk182 (1 : Int32) H locs ls hP hD hS (lv_sub hl [0, 1, 2, 3, 4, 5, 6, 7] rfl) hF
        clear e_k177
        refine lv_if_ne (tgt := 177) hx hb dX7_tryRows_114 (by decide) (fun c0 => ?_) (fun c0 => ?_)
        · have hF := if_f hF c0
          exact hk177 H locs ls hP hD hS (lv_sub hl [1, 2, 3, 4, 5, 6, 7, 0] rfl) hF
        · have hF := if_t hF c0
          refine lv_lload hx hb dX7_tryRows_117 (lv_at hl 5 rfl) ?_
          refine lv_aload_n hx hb dX7_tryRows_119 rfl (lv_at hl 1 rfl) ?_
          refine va_get (D := (dC, dI)) (ci := 5) (v := .ref (a 4)) (C := RX7) (T := TX7) (N := 25) hx hb hts hinX7 hown hK hP 0 rfl rfl 5 (by decide) hf_24 (fun _ h9 => h9) rfl dX7_tryRows_120 ?_
          refine lv_iconst (v := 3) hx hb dX7_tryRows_123 (by decide) ?_
          refine kc_lald (j := 3) hx hb hK hP 4 1 rfl rfl (by decide) (by decide) dX7_tryRows_124 ?_
          refine W.lcmp hx hb dX7_tryRows_125 ?_
          refine lv_if_lt (tgt := 177) hx hb dX7_tryRows_126 (by decide) (fun c0 => ?_) (fun c0 => ?_)
          · have c0 := (lg_cmp_lt _ _).mp c0
            have hF := if_t hF c0
            exact hk177 H locs ls hP hD hS (lv_sub hl [1, 2, 3, 4, 5, 6, 7, 0] rfl) hF
          · have c0 := (not_congr (lg_cmp_lt _ _)).mp c0
            have hF := if_f hF c0
            refine lv_lload hx hb dX7_tryRows_129 (lv_at hl 5 rfl) ?_
            refine lv_aload_n hx hb dX7_tryRows_131 rfl (lv_at hl 1 rfl) ?_
            refine va_get (D := (dC, dI)) (ci := 5) (v := .ref (a 4)) (C := RX7) (T := TX7) (N := 25) hx hb hts hinX7 hown hK hP 0 rfl rfl 5 (by decide) hf_24 (fun _ h9 => h9) rfl dX7_tryRows_132 ?_
            refine lv_iconst (v := 3) hx hb dX7_tryRows_135 (by decide) ?_
            refine kc_lald (j := 3) hx hb hK hP 4 1 rfl rfl (by decide) (by decide) dX7_tryRows_136 ?_
            refine W.lcmp hx hb dX7_tryRows_137 ?_
            obtain ⟨k181, e_k181, hF⟩ := nm_ex hF
            have hk181 : ∀  (H : Heap) (locs : List Loc) (ls : Array Slot), va_P (dC, dI) vwCl (mW cI cJ h a forms prime turns lineT lineU kinds upper lower numbers q base least table rows lists listSize tried other line makers touches made kindForm kindTurns kindWays) H → va_D A (mW cI cJ h a forms prime turns lineT lineU kinds upper lower numbers q base least table rows lists listSize tried other line makers touches made kindForm kindTurns kindWays) → va_S A s.heap H locs → lv_has ls 15 [(0, .ref h), (1, .int p0), (2, .int p1), (3, .int p2), (6, .long r_2), (8, .long r_3), (10, .long r_4), (13, .int s_6)] → k181 = some (o_turns, o_least, o_table, o_tried) → W p l e rmX7_tryRows s m ([.ref h, .int p0, .int p1, .int p2] : List Value).toArray below meth c H locs 0 0 Q (F0 m 181 ls []) := by
              intro H locs ls hP hD hS hl hF
              have hF := ka0 e_k181 hF
              refine lv_iconst (v := 0) hx hb dX7_tryRows_181 (by decide) ?_
              exact hk182 (0 : Int32) H locs ls hP hD hS (lv_sub hl [0, 1, 2, 3, 4, 5, 6, 7] rfl) hF
            clear e_k181
            refine lv_if_ne (tgt := 181) hx hb dX7_tryRows_138 (by decide) (fun c0 => ?_) (fun c0 => ?_)
            · have c0 := (not_congr (lg_cmp_eq _ _)).mp c0
              have hF := if_f hF c0
              exact hk181 H locs ls hP hD hS (lv_sub hl [1, 2, 3, 4, 5, 6, 7, 0] rfl) hF
            · have c0 := (lg_cmp_eq _ _).mp c0
              have hF := if_t hF c0
              refine lv_lload hx hb dX7_tryRows_141 (lv_at hl 6 rfl) ?_
              refine lv_aload_n hx hb dX7_tryRows_143 rfl (lv_at hl 1 rfl) ?_
              refine va_get (D := (dC, dI)) (ci := 5) (v := .ref (a 4)) (C := RX7) (T := TX7) (N := 25) hx hb hts hinX7 hown hK hP 0 rfl rfl 5 (by decide) hf_24 (fun _ h9 => h9) rfl dX7_tryRows_144 ?_
              refine lv_iconst (v := 4) hx hb dX7_tryRows_147 (by decide) ?_
              refine kc_lald (j := 4) hx hb hK hP 4 1 rfl rfl (by decide) (by decide) dX7_tryRows_148 ?_
              refine W.lcmp hx hb dX7_tryRows_149 ?_
              refine lv_if_lt (tgt := 177) hx hb dX7_tryRows_150 (by decide) (fun c0 => ?_) (fun c0 => ?_)
              · have c0 := (lg_cmp_lt _ _).mp c0
                have hF := if_t hF c0
                exact hk177 H locs ls hP hD hS (lv_sub hl [1, 2, 3, 4, 5, 6, 7, 0] rfl) hF
              · have c0 := (not_congr (lg_cmp_lt _ _)).mp c0
                have hF := if_f hF c0
                refine lv_lload hx hb dX7_tryRows_153 (lv_at hl 6 rfl) ?_
                refine lv_aload_n hx hb dX7_tryRows_155 rfl (lv_at hl 1 rfl) ?_
                refine va_get (D := (dC, dI)) (ci := 5) (v := .ref (a 4)) (C := RX7) (T := TX7) (N := 25) hx hb hts hinX7 hown hK hP 0 rfl rfl 5 (by decide) hf_24 (fun _ h9 => h9) rfl dX7_tryRows_156 ?_
                refine lv_iconst (v := 4) hx hb dX7_tryRows_159 (by decide) ?_
                refine kc_lald (j := 4) hx hb hK hP 4 1 rfl rfl (by decide) (by decide) dX7_tryRows_160 ?_
                refine W.lcmp hx hb dX7_tryRows_161 ?_
                refine lv_if_ne (tgt := 181) hx hb dX7_tryRows_162 (by decide) (fun c0 => ?_) (fun c0 => ?_)
                · have c0 := (not_congr (lg_cmp_eq _ _)).mp c0
                  have hF := if_f hF c0
                  exact hk181 H locs ls hP hD hS (lv_sub hl [1, 2, 3, 4, 5, 6, 7, 0] rfl) hF
                · have c0 := (lg_cmp_eq _ _).mp c0
                  have hF := if_t hF c0
                  refine lv_lload hx hb dX7_tryRows_165 (lv_at hl 7 rfl) ?_
                  refine lv_aload_n hx hb dX7_tryRows_167 rfl (lv_at hl 1 rfl) ?_
                  refine va_get (D := (dC, dI)) (ci := 5) (v := .ref (a 4)) (C := RX7) (T := TX7) (N := 25) hx hb hts hinX7 hown hK hP 0 rfl rfl 5 (by decide) hf_24 (fun _ h9 => h9) rfl dX7_tryRows_168 ?_
                  refine lv_iconst (v := 5) hx hb dX7_tryRows_171 (by decide) ?_
                  refine kc_lald (j := 5) hx hb hK hP 4 1 rfl rfl (by decide) (by decide) dX7_tryRows_172 ?_
                  refine W.lcmp hx hb dX7_tryRows_173 ?_
                  refine lv_if_ge (tgt := 181) hx hb dX7_tryRows_174 (by decide) (fun c0 => ?_) (fun c0 => ?_)
                  · have c0 := (lg_cmp_ge _ _).mp c0
                    have hF := if_t hF c0
                    exact hk181 H locs ls hP hD hS (lv_sub hl [1, 2, 3, 4, 5, 6, 7, 0] rfl) hF
                  · have c0 := (not_congr (lg_cmp_ge _ _)).mp c0
                    have hF := if_f hF c0
                    exact hk177 H locs ls hP hD hS (lv_sub hl [1, 2, 3, 4, 5, 6, 7, 0] rfl) hF
      clear e_k110
      obtain ⟨k109, e_k109, hF⟩ := nm_ex hF
      have hk109 : ∀  (H : Heap) (locs : List Loc) (ls : Array Slot), va_P (dC, dI) vwCl (mW cI cJ h a forms prime turns lineT lineU kinds upper lower numbers q base least table rows lists listSize tried other line makers touches made kindForm kindTurns kindWays) H → va_D A (mW cI cJ h a forms prime turns lineT lineU kinds upper lower numbers q base least table rows lists listSize tried other line makers touches made kindForm kindTurns kindWays) → va_S A s.heap H locs → lv_has ls 15 [(0, .ref h), (1, .int p0), (2, .int p1), (3, .int p2), (6, .long r_2), (8, .long r_3), (10, .long r_4), (12, .int s_5)] → k109 = some (o_turns, o_least, o_table, o_tried) → W p l e rmX7_tryRows s m ([.ref h, .int p0, .int p1, .int p2] : List Value).toArray below meth c H locs 0 0 Q (F0 m 109 ls []) := by
        intro H locs ls hP hD hS hl hF
        have hF := ka0 e_k109 hF
        refine lv_iconst (v := 0) hx hb dX7_tryRows_109 (by decide) ?_
        exact hk110 (0 : Int32) H locs ls hP hD hS (lv_sub hl [0, 1, 2, 3, 4, 5, 6, 7] rfl) hF
      clear e_k109
      refine lv_if_ne (tgt := 109) hx hb dX7_tryRows_66 (by decide) (fun c0 => ?_) (fun c0 => ?_)
      · have hF := if_f hF c0
        exact hk109 H locs ls hP hD hS (lv_sub hl [1, 2, 3, 4, 5, 6, 7, 0] rfl) hF
      · have hF := if_t hF c0
        refine lv_lload hx hb dX7_tryRows_69 (lv_at hl 5 rfl) ?_
        refine lv_aload_n hx hb dX7_tryRows_71 rfl (lv_at hl 1 rfl) ?_
        refine va_get (D := (dC, dI)) (ci := 5) (v := .ref (a 4)) (C := RX7) (T := TX7) (N := 25) hx hb hts hinX7 hown hK hP 0 rfl rfl 5 (by decide) hf_24 (fun _ h9 => h9) rfl dX7_tryRows_72 ?_
        refine lv_iconst (v := 3) hx hb dX7_tryRows_75 (by decide) ?_
        refine kc_lald (j := 3) hx hb hK hP 4 1 rfl rfl (by decide) (by decide) dX7_tryRows_76 ?_
        refine W.lcmp hx hb dX7_tryRows_77 ?_
        refine lv_if_ne (tgt := 109) hx hb dX7_tryRows_78 (by decide) (fun c0 => ?_) (fun c0 => ?_)
        · have c0 := (not_congr (lg_cmp_eq _ _)).mp c0
          have hF := if_f hF c0
          exact hk109 H locs ls hP hD hS (lv_sub hl [1, 2, 3, 4, 5, 6, 7, 0] rfl) hF
        · have c0 := (lg_cmp_eq _ _).mp c0
          have hF := if_t hF c0
          refine lv_lload hx hb dX7_tryRows_81 (lv_at hl 6 rfl) ?_
          refine lv_aload_n hx hb dX7_tryRows_83 rfl (lv_at hl 1 rfl) ?_
          refine va_get (D := (dC, dI)) (ci := 5) (v := .ref (a 4)) (C := RX7) (T := TX7) (N := 25) hx hb hts hinX7 hown hK hP 0 rfl rfl 5 (by decide) hf_24 (fun _ h9 => h9) rfl dX7_tryRows_84 ?_
          refine lv_iconst (v := 4) hx hb dX7_tryRows_87 (by decide) ?_
          refine kc_lald (j := 4) hx hb hK hP 4 1 rfl rfl (by decide) (by decide) dX7_tryRows_88 ?_
          refine W.lcmp hx hb dX7_tryRows_89 ?_
          refine lv_if_ne (tgt := 109) hx hb dX7_tryRows_90 (by decide) (fun c0 => ?_) (fun c0 => ?_)
          · have c0 := (not_congr (lg_cmp_eq _ _)).mp c0
            have hF := if_f hF c0
            exact hk109 H locs ls hP hD hS (lv_sub hl [1, 2, 3, 4, 5, 6, 7, 0] rfl) hF
          · have c0 := (lg_cmp_eq _ _).mp c0
            have hF := if_t hF c0
            refine lv_lload hx hb dX7_tryRows_93 (lv_at hl 7 rfl) ?_
            refine lv_aload_n hx hb dX7_tryRows_95 rfl (lv_at hl 1 rfl) ?_
            refine va_get (D := (dC, dI)) (ci := 5) (v := .ref (a 4)) (C := RX7) (T := TX7) (N := 25) hx hb hts hinX7 hown hK hP 0 rfl rfl 5 (by decide) hf_24 (fun _ h9 => h9) rfl dX7_tryRows_96 ?_
            refine lv_iconst (v := 5) hx hb dX7_tryRows_99 (by decide) ?_
            refine kc_lald (j := 5) hx hb hK hP 4 1 rfl rfl (by decide) (by decide) dX7_tryRows_100 ?_
            refine W.lcmp hx hb dX7_tryRows_101 ?_
            refine lv_if_ne (tgt := 109) hx hb dX7_tryRows_102 (by decide) (fun c0 => ?_) (fun c0 => ?_)
            · have c0 := (not_congr (lg_cmp_eq _ _)).mp c0
              have hF := if_f hF c0
              exact hk109 H locs ls hP hD hS (lv_sub hl [1, 2, 3, 4, 5, 6, 7, 0] rfl) hF
            · have c0 := (lg_cmp_eq _ _).mp c0
              have hF := if_t hF c0
              refine lv_iconst (v := 1) hx hb dX7_tryRows_105 (by decide) ?_
              refine lv_goto (tgt := 110) hx hb dX7_tryRows_106 (by decide) ?_
              exact hk110 (1 : Int32) H locs ls hP hD hS (lv_sub hl [1, 2, 3, 4, 5, 6, 7, 0] rfl) hF
    clear e_k62
    refine lv_if_ne (tgt := 61) hx hb dX7_tryRows_54 (by decide) (fun c0 => ?_) (fun c0 => ?_)
    · have hF := if_f hF c0
      refine lv_iconst (v := 0) hx hb dX7_tryRows_61 (by decide) ?_
      exact hk62 (0 : Int32) H locs ls hP hD hS (lv_sub hl [3, 4, 5, 6, 2, 1, 0] rfl) hF
    · have hF := if_t hF c0
      refine lv_iconst (v := 1) hx hb dX7_tryRows_57 (by decide) ?_
      refine lv_goto (tgt := 62) hx hb dX7_tryRows_58 (by decide) ?_
      exact hk62 (1 : Int32) H locs ls hP hD hS (lv_sub hl [3, 4, 5, 6, 2, 1, 0] rfl) hF
  clear e_k26
  refine lv_if_eq (tgt := 26) hx hb dX7_tryRows_13 (by decide) (fun c0 => ?_) (fun c0 => ?_)
  · have c0 := (lg_cmp_eq _ _).mp c0
    have hF := if_t hF c0
    exact hk26 H locs ls hP hD hS (lv_sub hl [1, 2, 3, 4] rfl) hF
  · have c0 := (not_congr (lg_cmp_eq _ _)).mp c0
    have hF := if_f hF c0
    refine lv_lload hx hb dX7_tryRows_16 (lv_at hl 0 rfl) ?_
    refine lv_ldc2 (v := (-1)) hx hb hown (hlk (.constantLong RX7 96 (-1)) (by decide +kernel)) dX7_tryRows_18 ?_
    refine W.lcmp hx hb dX7_tryRows_21 ?_
    refine lv_if_eq (tgt := 26) hx hb dX7_tryRows_22 (by decide) (fun c0 => ?_) (fun c0 => ?_)
    · have c0 := (lg_cmp_eq _ _).mp c0
      have hF := if_t hF c0
      exact hk26 H locs ls hP hD hS (lv_sub hl [1, 2, 3, 4] rfl) hF
    · have c0 := (not_congr (lg_cmp_eq _ _)).mp c0
      have hF := if_f hF c0
      obtain ⟨q0, q1, q2, q3⟩ := sm4 hF
      have hP : va_P (dC, dI) vwCl (mW cI cJ h a forms prime o_turns lineT lineU kinds upper lower numbers q base o_least o_table rows lists listSize o_tried other line makers touches made kindForm kindTurns kindWays) H := by rw [← q0, ← q1, ← q2, ← q3]; exact hP
      have hD : va_D A (mW cI cJ h a forms prime o_turns lineT lineU kinds upper lower numbers q base o_least o_table rows lists listSize o_tried other line makers touches made kindForm kindTurns kindWays) := by rw [← q0, ← q1, ← q2, ← q3]; exact hD
      refine W_Qe hQ ?_
      exact W.vret hx hb hr (fun t ht hW => ⟨⟨(), rfl, trivial, by rw [ht]; exact hP, va_K.moved hW.alike hK, hD⟩, hS.F ht⟩) hS.2.2 dX7_tryRows_25
def fX7_findLeast_L150 (listSize_15 : Nat → Int32) (k190 : (Int32) → (Nat → Int64) → (Nat → Int64) → (Nat → Int64) → Option ((Int32) × (Nat → Int64) × (Nat → Int64) × (Nat → Int64) × (Nat → Int64) × (Nat → Int64) × (Nat → Int64) × (Nat → Int32) × (Nat → Int64))) (fu : Nat) (q_1 : Nat → Int64) (base_2 : Nat → Int64) (lists_14 : Nat → Int64) (x3_16 : Int32) (x4_21 : Int32) : Nat → (Int32) → (Int32) → (Nat → Int64) → (Nat → Int64) → (Nat → Int64) → Option ((Int32) × (Nat → Int64) × (Nat → Int64) × (Nat → Int64) × (Nat → Int64) × (Nat → Int64) × (Nat → Int64) × (Nat → Int32) × (Nat → Int64))
  | 0, _, _, _, _, _ => none
  | n + 1, x5_26, turns_27, least_28, table_29, tried_30 => if (listSize_15 2) ≤ x5_26 then ((k190 turns_27 least_28 table_29 tried_30)) else (bd4 (fX7_tryRows fu turns_27 q_1 base_2 least_28 table_29 lists_14 tried_30 ((3 : Int32) * x3_16) ((1800 : Int32) + ((3 : Int32) * x4_21)) ((3600 : Int32) + ((3 : Int32) * x5_26))) (fun (turns_31 : Int32) (least_32 : Nat → Int64) (table_33 : Nat → Int64) (tried_34 : Nat → Int64) => nm (x5_26 + (1 : Int32)) (fun (x5_35 : Int32) => (fX7_findLeast_L150 listSize_15 k190 fu q_1 base_2 lists_14 x3_16 x4_21 n x5_35 turns_31 least_32 table_33 tried_34))))
def fX7_findLeast_L136 (listSize_15 : Nat → Int32) (k196 : (Int32) → (Nat → Int64) → (Nat → Int64) → (Nat → Int64) → Option ((Int32) × (Nat → Int64) × (Nat → Int64) × (Nat → Int64) × (Nat → Int64) × (Nat → Int64) × (Nat → Int64) × (Nat → Int32) × (Nat → Int64))) (fu : Nat) (q_1 : Nat → Int64) (base_2 : Nat → Int64) (lists_14 : Nat → Int64) (x3_16 : Int32) : Nat → (Int32) → (Int32) → (Nat → Int64) → (Nat → Int64) → (Nat → Int64) → Option ((Int32) × (Nat → Int64) × (Nat → Int64) × (Nat → Int64) × (Nat → Int64) × (Nat → Int64) × (Nat → Int64) × (Nat → Int32) × (Nat → Int64))
  | 0, _, _, _, _, _ => none
  | n + 1, x4_21, turns_22, least_23, table_24, tried_25 => if (listSize_15 1) ≤ x4_21 then ((k196 turns_22 least_23 table_24 tried_25)) else (nm (fun (turns_36 : Int32) (least_37 : Nat → Int64) (table_38 : Nat → Int64) (tried_39 : Nat → Int64) => nm (x4_21 + (1 : Int32)) (fun (x4_40 : Int32) => (fX7_findLeast_L136 listSize_15 k196 fu q_1 base_2 lists_14 x3_16 n x4_40 turns_36 least_37 table_38 tried_39))) (fun (k190 : (Int32) → (Nat → Int64) → (Nat → Int64) → (Nat → Int64) → Option ((Int32) × (Nat → Int64) × (Nat → Int64) × (Nat → Int64) × (Nat → Int64) × (Nat → Int64) × (Nat → Int64) × (Nat → Int32) × (Nat → Int64))) => (fX7_findLeast_L150 listSize_15 k190 fu q_1 base_2 lists_14 x3_16 x4_21 fu (0 : Int32) turns_22 least_23 table_24 tried_25)))
def fX7_findLeast_L123 (listSize_15 : Nat → Int32) (q_1 : Nat → Int64) (base_2 : Nat → Int64) (rows_12 : Nat → Int64) (lists_14 : Nat → Int64) (fu : Nat) : Nat → (Int32) → (Int32) → (Nat → Int64) → (Nat → Int64) → (Nat → Int64) → Option ((Int32) × (Nat → Int64) × (Nat → Int64) × (Nat → Int64) × (Nat → Int64) × (Nat → Int64) × (Nat → Int64) × (Nat → Int32) × (Nat → Int64))
  | 0, _, _, _, _, _ => none
  | n + 1, x3_16, turns_17, least_18, table_19, tried_20 => if (listSize_15 0) ≤ x3_16 then (some (turns_17, q_1, base_2, least_18, table_19, rows_12, lists_14, listSize_15, tried_20)) else (nm (fun (turns_41 : Int32) (least_42 : Nat → Int64) (table_43 : Nat → Int64) (tried_44 : Nat → Int64) => nm (x3_16 + (1 : Int32)) (fun (x3_45 : Int32) => (fX7_findLeast_L123 listSize_15 q_1 base_2 rows_12 lists_14 fu n x3_45 turns_41 least_42 table_43 tried_44))) (fun (k196 : (Int32) → (Nat → Int64) → (Nat → Int64) → (Nat → Int64) → Option ((Int32) × (Nat → Int64) × (Nat → Int64) × (Nat → Int64) × (Nat → Int64) × (Nat → Int64) × (Nat → Int64) × (Nat → Int32) × (Nat → Int64))) => (fX7_findLeast_L136 listSize_15 k196 fu q_1 base_2 lists_14 x3_16 fu (0 : Int32) turns_17 least_18 table_19 tried_20)))
def fX7_findLeast (fu : Nat) (q : Nat → Int64) (base : Nat → Int64) (least : Nat → Int64) (table : Nat → Int64) (rows : Nat → Int64) (lists : Nat → Int64) (listSize : Nat → Int32) (tried : Nat → Int64)  : Option ((Int32) × (Nat → Int64) × (Nat → Int64) × (Nat → Int64) × (Nat → Int64) × (Nat → Int64) × (Nat → Int64) × (Nat → Int32) × (Nat → Int64)) :=
  bd2 (fX7_shorten fu q base) (fun (q_1 : Nat → Int64) (base_2 : Nat → Int64) => nm (fun (s_3 : Int64) => nm (fun (s_4 : Int64) => bd2 (fX7_findApart fu q_1 rows (0 : Int32) s_4) (fun (r_5 : Int64) (rows_6 : Nat → Int64) => nm (vp_updL least 0 r_5) (fun (least_7 : Nat → Int64) => bd2 (fX7_findApart fu q_1 rows_6 (1 : Int32) s_4) (fun (r_8 : Int64) (rows_9 : Nat → Int64) => nm (vp_updL least_7 1 r_8) (fun (least_10 : Nat → Int64) => bd2 (fX7_findApart fu q_1 rows_9 (2 : Int32) s_4) (fun (r_11 : Int64) (rows_12 : Nat → Int64) => nm (vp_updL least_10 2 r_11) (fun (least_13 : Nat → Int64) => bd2 (fX7_listRows fu q_1 lists listSize (least_13 0) (least_13 1) (least_13 2)) (fun (lists_14 : Nat → Int64) (listSize_15 : Nat → Int32) => (fX7_findLeast_L123 listSize_15 q_1 base_2 rows_12 lists_14 fu fu (0 : Int32) (0 : Int32) least_13 table tried))))))))) (fun (k57 : (Int64) → Option ((Int32) × (Nat → Int64) × (Nat → Int64) × (Nat → Int64) × (Nat → Int64) × (Nat → Int64) × (Nat → Int64) × (Nat → Int32) × (Nat → Int64))) => if (q_1 2) ≤ s_3 then ((k57 s_3)) else ((k57 (q_1 2))))) (fun (k35 : (Int64) → Option ((Int32) × (Nat → Int64) × (Nat → Int64) × (Nat → Int64) × (Nat → Int64) × (Nat → Int64) × (Nat → Int64) × (Nat → Int32) × (Nat → Int64))) => if (q_1 0) ≤ (q_1 1) then ((k35 (q_1 1))) else ((k35 (q_1 0)))))
def lkX7_findLeast : List Cond := [.fieldLink RX7 17 "KinFormsModel" "q" "[J", .fieldLink RX7 24 "KinFormsModel" "least" "[J", .fieldLink RX7 110 "KinFormsModel" "turns" "I", .fieldLink RX7 36 "KinFormsModel" "listSize" "[I"]
def vX7_findLeast : List Cond := .code yX7_findLeast cX7_findLeast 6 none :: (lkX7_findLeast ++ (wsX70 ++ (wsV RX7 125 RX7 yX7_shorten vX7_shorten ++ (wsV RX7 128 RX7 yX7_findApart vX7_findApart ++ (wsV RX7 131 RX7 yX7_listRows vX7_listRows ++ (wsV RX7 135 RX7 yX7_tryRows vX7_tryRows ++ ([])))))))
theorem q_X7_findLeast : ∀ w ∈ vX7_findLeast, goodWord w = true := gd_cons rfl (gd_app (by decide +kernel) (gd_app q_wsX70 (gd_app (gd_V q_X7_shorten) (gd_app (gd_V q_X7_findApart) (gd_app (gd_V q_X7_listRows) (gd_app (gd_V q_X7_tryRows) gd_nil))))))
theorem g_X7_findLeast_X7_shorten : GoodIn vX7_findLeast (wsV RX7 125 RX7 yX7_shorten vX7_shorten) := gi_of (fun w h => List.mem_cons_of_mem _ (List.mem_append_right _ (List.mem_append_right _ (List.mem_append_left _ h)))) (gd_V q_X7_shorten)
theorem g_X7_findLeast_X7_findApart : GoodIn vX7_findLeast (wsV RX7 128 RX7 yX7_findApart vX7_findApart) := gi_of (fun w h => List.mem_cons_of_mem _ (List.mem_append_right _ (List.mem_append_right _ (List.mem_append_right _ (List.mem_append_left _ h))))) (gd_V q_X7_findApart)
theorem g_X7_findLeast_X7_listRows : GoodIn vX7_findLeast (wsV RX7 131 RX7 yX7_listRows vX7_listRows) := gi_of (fun w h => List.mem_cons_of_mem _ (List.mem_append_right _ (List.mem_append_right _ (List.mem_append_right _ (List.mem_append_right _ (List.mem_append_left _ h)))))) (gd_V q_X7_listRows)
theorem g_X7_findLeast_X7_tryRows : GoodIn vX7_findLeast (wsV RX7 135 RX7 yX7_tryRows vX7_tryRows) := gi_of (fun w h => List.mem_cons_of_mem _ (List.mem_append_right _ (List.mem_append_right _ (List.mem_append_right _ (List.mem_append_right _ (List.mem_append_right _ (List.mem_append_left _ h))))))) (gd_V q_X7_tryRows)
abbrev rmX7_findLeast : Room := { frames := 4, cells := 0, slots := 0, locals := 114 }
set_option maxHeartbeats 4000000 in
set_option maxRecDepth 100000 in
theorem c_X7_findLeast (l : Launch) (dC : Nat → ClassId) (dI : Nat → Nat → Nat) (cI : ClassId) (cJ : ClassId) (h : Nat) (a : Nat → Nat) (fu : Nat) (sz : Nat) (forms : Int32) (prime : Int32) (turns : Int32) (lineT : Int32) (lineU : Int32) (kinds : Int32) (upper : Int64) (lower : Int64) (numbers : Nat → Int32) (q : Nat → Int64) (base : Nat → Int64) (least : Nat → Int64) (table : Nat → Int64) (rows : Nat → Int64) (lists : Nat → Int64) (listSize : Nat → Int32) (tried : Nat → Int64) (other : Nat → Int64) (line : Nat → Int64) (makers : Nat → Int64) (touches : Nat → Int64) (made : Nat → Int64) (kindForm : Nat → Int64) (kindTurns : Nat → Int32) (kindWays : Nat → Int32)  (o_turns : Int32) (o_q : Nat → Int64) (o_base : Nat → Int64) (o_least : Nat → Int64) (o_table : Nat → Int64) (o_rows : Nat → Int64) (o_lists : Nat → Int64) (o_listSize : Nat → Int32) (o_tried : Nat → Int64) (hF : fX7_findLeast fu q base least table rows lists listSize tried = some (o_turns, o_q, o_base, o_least, o_table, o_rows, o_lists, o_listSize, o_tried)) : Met l yX7_findLeast vX7_findLeast rmX7_findLeast (va_Pc [.ref h] (mPc (dC, dI) vwCl (mW cI cJ h a forms prime turns lineT lineU kinds upper lower numbers q base least table rows lists listSize tried other line makers touches made kindForm kindTurns kindWays) [(cI, .int), (cJ, .long)] sz)) (va_Qv (fun (_ : Unit) => True) (mPo (dC, dI) vwCl (mW cI cJ h a forms prime o_turns lineT lineU kinds upper lower numbers o_q o_base o_least o_table o_rows o_lists o_listSize o_tried other line makers touches made kindForm kindTurns kindWays) [(cI, .int), (cJ, .long)] (va_A (mW cI cJ h a forms prime turns lineT lineU kinds upper lower numbers q base least table rows lists listSize tried other line makers touches made kindForm kindTurns kindWays) sz)) (va_A (mW cI cJ h a forms prime turns lineT lineU kinds upper lower numbers q base least table rows lists listSize tried other line makers touches made kindForm kindTurns kindWays) sz)) 0 0 (va_A (mW cI cJ h a forms prime turns lineT lineU kinds upper lower numbers q base least table rows lists listSize tried other line makers touches made kindForm kindTurns kindWays) sz) := by
  refine Met.ofW (cc := cX7_findLeast) (maxL := 6) (ret := none) (by decide) rfl ?_
  intro p e s m args below meth c s₁ B hml hv
  obtain ⟨rfl, hsz, hP, hK, hD0⟩ := hv
  have hx := B.exec
  have hb := B.bytes
  have hr := B.returns
  have hts := atoms_spec (ws := vX7_findLeast) B.pre
  have hlk : ∀ w ∈ lkX7_findLeast, w.before _ s = true := fun w h => hts w (List.mem_cons_of_mem _ (List.mem_append_left _ h))
  have hown : s.vm.findClass RX7 = some m.cls := findClass_of_methodNamed B.named
  have hlocks := B.notSynchronized
  subst hsz
  have hD := hD0.self (sz := s.heap.size)
  generalize hAe : va_A (mW cI cJ h a forms prime turns lineT lineU kinds upper lower numbers q base least table rows lists listSize tried other line makers touches made kindForm kindTurns kindWays) s.heap.size = A at hD ⊢
  have hA : ∀ q : Nat, s.heap.size ≤ q → A q := fun q h => by rw [← hAe]; exact Or.inr h
  have hS : va_S A s.heap s.heap [] := va_S.rf
  have hinX7 : ∀ w ∈ wsX70, w ∈ vX7_findLeast := fun w h => List.mem_cons_of_mem _ (List.mem_append_right _ (List.mem_append_left _ h))
  have hf_17 := hlk (.fieldLink RX7 17 "KinFormsModel" "q" "[J") (by decide +kernel)
  have hf_24 := hlk (.fieldLink RX7 24 "KinFormsModel" "least" "[J") (by decide +kernel)
  have hf_110 := hlk (.fieldLink RX7 110 "KinFormsModel" "turns" "I") (by decide +kernel)
  have hf_36 := hlk (.fieldLink RX7 36 "KinFormsModel" "listSize" "[I") (by decide +kernel)
  have hl := lv_entry ([.ref h] : List Value) (n := 6) (Nat.le_of_ble_eq_true rfl)
  rw [lg_entry_eq]
  generalize (lg_sl ([.ref h] : List Value) ++ List.replicate (6 - (lg_sl ([.ref h] : List Value)).length) Slot.unset).toArray = ls at hl ⊢
  have hl : lv_has ls 6 [(0, .ref h)] := hl
  unfold fX7_findLeast at hF
  refine W_Q (fun Q hQ => ?_)
  have hP : va_P (dC, dI) vwCl (mW cI cJ h a forms prime turns lineT lineU kinds upper lower numbers q base least table rows lists listSize tried other line makers touches made kindForm kindTurns kindWays) s.heap := hP
  refine W_HL (fun H locs eH eL => ?_)
  rw [← eH] at hP
  have hS : va_S A s.heap H locs := by rw [eH, eL]; exact hS
  refine lv_aload_n hx hb dX7_findLeast_0 rfl (lv_at hl 0 rfl) ?_
  obtain ⟨q_1, base_2, hc, hF⟩ := bd2_of hF
  refine mc_v (va_runV (As := []) (rest := []) ⟨hx, hb, hml, hown, hts⟩ (c_X7_shorten l dC dI cI cJ h a fu H.size forms prime turns lineT lineU kinds upper lower numbers q base least table rows lists listSize tried other line makers touches made kindForm kindTurns kindWays  q_1 base_2 hc) (cwV 0 hts g_X7_findLeast_X7_shorten rfl rfl rfl (by decide +kernel) ⟨Nat.le_of_ble_eq_true rfl, Nat.le_of_ble_eq_true rfl⟩) ⟨mPc_blind, va_recv hK hP (ci := 5) (q0 := 0) rfl rfl, mPc_at hK hP hD⟩ rfl rfl hl.1 rfl (lv_room (Nat.le_of_ble_eq_true rfl)) dX7_findLeast_1 ⟨Nat.zero_le _, Nat.zero_le _⟩) hS (fr_all hD hS hA) (fun H locs hP hD hS => ?_)
  refine lv_aload_n hx hb dX7_findLeast_4 rfl (lv_at hl 0 rfl) ?_
  refine va_get (D := (dC, dI)) (ci := 5) (v := .ref (a 2)) (C := RX7) (T := TX7) (N := 25) hx hb hts hinX7 hown hK hP 0 rfl rfl 3 (by decide) hf_17 (fun _ h9 => h9) rfl dX7_findLeast_5 ?_
  refine lv_iconst (v := 0) hx hb dX7_findLeast_8 (by decide) ?_
  refine kc_lald (j := 0) hx hb hK hP 2 1 rfl rfl (by decide) (by decide) dX7_findLeast_9 ?_
  refine lv_aload_n hx hb dX7_findLeast_10 rfl (lv_at hl 0 rfl) ?_
  refine va_get (D := (dC, dI)) (ci := 5) (v := .ref (a 2)) (C := RX7) (T := TX7) (N := 25) hx hb hts hinX7 hown hK hP 0 rfl rfl 3 (by decide) hf_17 (fun _ h9 => h9) rfl dX7_findLeast_11 ?_
  refine lv_iconst (v := 1) hx hb dX7_findLeast_14 (by decide) ?_
  refine kc_lald (j := 1) hx hb hK hP 2 1 rfl rfl (by decide) (by decide) dX7_findLeast_15 ?_
  refine W.lcmp hx hb dX7_findLeast_16 ?_
  obtain ⟨k35, e_k35, hF⟩ := nm_ex hF
  have hk35 : ∀ (s_3 : Int64) (H : Heap) (locs : List Loc) (ls : Array Slot), va_P (dC, dI) vwCl (mW cI cJ h a forms prime turns lineT lineU kinds upper lower numbers q_1 base_2 least table rows lists listSize tried other line makers touches made kindForm kindTurns kindWays) H → va_D A (mW cI cJ h a forms prime turns lineT lineU kinds upper lower numbers q_1 base_2 least table rows lists listSize tried other line makers touches made kindForm kindTurns kindWays) → va_S A s.heap H locs → lv_has ls 6 [(0, .ref h)] → k35 s_3 = some (o_turns, o_q, o_base, o_least, o_table, o_rows, o_lists, o_listSize, o_tried) → W p l e rmX7_findLeast s m ([.ref h] : List Value).toArray below meth c H locs 0 0 Q (F0 m 35 ls [.long s_3]) := by
    intro s_3 H locs ls hP hD hS hl hF
    have hF := ka1 e_k35 hF
    refine lv_lstore_n (lv' := [(1, .long s_3), (0, .ref h)]) hx hb dX7_findLeast_35 rfl hl (by decide) rfl (fun ls hl => ?_)
    refine lv_aload_n hx hb dX7_findLeast_36 rfl (lv_at hl 1 rfl) ?_
    refine va_get (D := (dC, dI)) (ci := 5) (v := .ref (a 2)) (C := RX7) (T := TX7) (N := 25) hx hb hts hinX7 hown hK hP 0 rfl rfl 3 (by decide) hf_17 (fun _ h9 => h9) rfl dX7_findLeast_37 ?_
    refine lv_iconst (v := 2) hx hb dX7_findLeast_40 (by decide) ?_
    refine kc_lald (j := 2) hx hb hK hP 2 1 rfl rfl (by decide) (by decide) dX7_findLeast_41 ?_
    refine lv_lload_n hx hb dX7_findLeast_42 rfl (lv_at hl 0 rfl) ?_
    refine W.lcmp hx hb dX7_findLeast_43 ?_
    obtain ⟨k57, e_k57, hF⟩ := nm_ex hF
    have hk57 : ∀ (s_4 : Int64) (H : Heap) (locs : List Loc) (ls : Array Slot), va_P (dC, dI) vwCl (mW cI cJ h a forms prime turns lineT lineU kinds upper lower numbers q_1 base_2 least table rows lists listSize tried other line makers touches made kindForm kindTurns kindWays) H → va_D A (mW cI cJ h a forms prime turns lineT lineU kinds upper lower numbers q_1 base_2 least table rows lists listSize tried other line makers touches made kindForm kindTurns kindWays) → va_S A s.heap H locs → lv_has ls 6 [(0, .ref h)] → k57 s_4 = some (o_turns, o_q, o_base, o_least, o_table, o_rows, o_lists, o_listSize, o_tried) → W p l e rmX7_findLeast s m ([.ref h] : List Value).toArray below meth c H locs 0 0 Q (F0 m 57 ls [.long s_4]) := by
      intro s_4 H locs ls hP hD hS hl hF
      have hF := ka1 e_k57 hF
      refine lv_lstore_n (lv' := [(1, .long s_4), (0, .ref h)]) hx hb dX7_findLeast_57 rfl hl (by decide) rfl (fun ls hl => ?_)
      refine lv_aload_n hx hb dX7_findLeast_58 rfl (lv_at hl 1 rfl) ?_
      refine va_get (D := (dC, dI)) (ci := 5) (v := .ref (a 4)) (C := RX7) (T := TX7) (N := 25) hx hb hts hinX7 hown hK hP 0 rfl rfl 5 (by decide) hf_24 (fun _ h9 => h9) rfl dX7_findLeast_59 ?_
      refine lv_iconst (v := 0) hx hb dX7_findLeast_62 (by decide) ?_
      refine lv_aload_n hx hb dX7_findLeast_63 rfl (lv_at hl 1 rfl) ?_
      refine lv_iconst (v := 0) hx hb dX7_findLeast_64 (by decide) ?_
      refine lv_lload_n hx hb dX7_findLeast_65 rfl (lv_at hl 0 rfl) ?_
      obtain ⟨r_5, rows_6, hc, hF⟩ := bd2_of hF
      refine mc_l (va_runV (As := [.int (0 : Int32), .long s_4]) (rest := [.int (0 : Int32), .ref (a 4)]) ⟨hx, hb, hml, hown, hts⟩ (c_X7_findApart l dC dI cI cJ h a fu H.size forms prime turns lineT lineU kinds upper lower numbers q_1 base_2 least table rows lists listSize tried other line makers touches made kindForm kindTurns kindWays (0 : Int32) s_4 r_5 rows_6 hc) (cwV 2 hts g_X7_findLeast_X7_findApart rfl rfl rfl (by decide +kernel) ⟨Nat.le_of_ble_eq_true rfl, Nat.le_of_ble_eq_true rfl⟩) ⟨mPc_blind, va_recv hK hP (ci := 5) (q0 := 0) rfl rfl, mPc_at hK hP hD⟩ rfl rfl hl.1 rfl (lv_room (Nat.le_of_ble_eq_true rfl)) dX7_findLeast_66 ⟨Nat.zero_le _, Nat.zero_le _⟩) hS (fr_all hD hS hA) (fun H locs hP hD hS => ?_)
      obtain ⟨least_7, e_least_7, hF⟩ := nm_ex hF
      refine kc_last (j := 0) (g := least_7) hx hb hK hP hD hS 4 1 rfl rfl (by decide) (by decide) dX7_findLeast_69 e_least_7 (fun H locs hP hD hS => ?_)
      have hP : va_P (dC, dI) vwCl (mW cI cJ h a forms prime turns lineT lineU kinds upper lower numbers q_1 base_2 least_7 table rows_6 lists listSize tried other line makers touches made kindForm kindTurns kindWays) H := hP
      have hD : va_D A (mW cI cJ h a forms prime turns lineT lineU kinds upper lower numbers q_1 base_2 least_7 table rows_6 lists listSize tried other line makers touches made kindForm kindTurns kindWays) := hD
      refine lv_aload_n hx hb dX7_findLeast_70 rfl (lv_at hl 1 rfl) ?_
      refine va_get (D := (dC, dI)) (ci := 5) (v := .ref (a 4)) (C := RX7) (T := TX7) (N := 25) hx hb hts hinX7 hown hK hP 0 rfl rfl 5 (by decide) hf_24 (fun _ h9 => h9) rfl dX7_findLeast_71 ?_
      refine lv_iconst (v := 1) hx hb dX7_findLeast_74 (by decide) ?_
      refine lv_aload_n hx hb dX7_findLeast_75 rfl (lv_at hl 1 rfl) ?_
      refine lv_iconst (v := 1) hx hb dX7_findLeast_76 (by decide) ?_
      refine lv_lload_n hx hb dX7_findLeast_77 rfl (lv_at hl 0 rfl) ?_
      obtain ⟨r_8, rows_9, hc, hF⟩ := bd2_of hF
      refine mc_l (va_runV (As := [.int (1 : Int32), .long s_4]) (rest := [.int (1 : Int32), .ref (a 4)]) ⟨hx, hb, hml, hown, hts⟩ (c_X7_findApart l dC dI cI cJ h a fu H.size forms prime turns lineT lineU kinds upper lower numbers q_1 base_2 least_7 table rows_6 lists listSize tried other line makers touches made kindForm kindTurns kindWays (1 : Int32) s_4 r_8 rows_9 hc) (cwV 2 hts g_X7_findLeast_X7_findApart rfl rfl rfl (by decide +kernel) ⟨Nat.le_of_ble_eq_true rfl, Nat.le_of_ble_eq_true rfl⟩) ⟨mPc_blind, va_recv hK hP (ci := 5) (q0 := 0) rfl rfl, mPc_at hK hP hD⟩ rfl rfl hl.1 rfl (lv_room (Nat.le_of_ble_eq_true rfl)) dX7_findLeast_78 ⟨Nat.zero_le _, Nat.zero_le _⟩) hS (fr_all hD hS hA) (fun H locs hP hD hS => ?_)
      obtain ⟨least_10, e_least_10, hF⟩ := nm_ex hF
      refine kc_last (j := 1) (g := least_10) hx hb hK hP hD hS 4 1 rfl rfl (by decide) (by decide) dX7_findLeast_81 e_least_10 (fun H locs hP hD hS => ?_)
      have hP : va_P (dC, dI) vwCl (mW cI cJ h a forms prime turns lineT lineU kinds upper lower numbers q_1 base_2 least_10 table rows_9 lists listSize tried other line makers touches made kindForm kindTurns kindWays) H := hP
      have hD : va_D A (mW cI cJ h a forms prime turns lineT lineU kinds upper lower numbers q_1 base_2 least_10 table rows_9 lists listSize tried other line makers touches made kindForm kindTurns kindWays) := hD
      refine lv_aload_n hx hb dX7_findLeast_82 rfl (lv_at hl 1 rfl) ?_
      refine va_get (D := (dC, dI)) (ci := 5) (v := .ref (a 4)) (C := RX7) (T := TX7) (N := 25) hx hb hts hinX7 hown hK hP 0 rfl rfl 5 (by decide) hf_24 (fun _ h9 => h9) rfl dX7_findLeast_83 ?_
      refine lv_iconst (v := 2) hx hb dX7_findLeast_86 (by decide) ?_
      refine lv_aload_n hx hb dX7_findLeast_87 rfl (lv_at hl 1 rfl) ?_
      refine lv_iconst (v := 2) hx hb dX7_findLeast_88 (by decide) ?_
      refine lv_lload_n hx hb dX7_findLeast_89 rfl (lv_at hl 0 rfl) ?_
      obtain ⟨r_11, rows_12, hc, hF⟩ := bd2_of hF
      refine mc_l (va_runV (As := [.int (2 : Int32), .long s_4]) (rest := [.int (2 : Int32), .ref (a 4)]) ⟨hx, hb, hml, hown, hts⟩ (c_X7_findApart l dC dI cI cJ h a fu H.size forms prime turns lineT lineU kinds upper lower numbers q_1 base_2 least_10 table rows_9 lists listSize tried other line makers touches made kindForm kindTurns kindWays (2 : Int32) s_4 r_11 rows_12 hc) (cwV 2 hts g_X7_findLeast_X7_findApart rfl rfl rfl (by decide +kernel) ⟨Nat.le_of_ble_eq_true rfl, Nat.le_of_ble_eq_true rfl⟩) ⟨mPc_blind, va_recv hK hP (ci := 5) (q0 := 0) rfl rfl, mPc_at hK hP hD⟩ rfl rfl hl.1 rfl (lv_room (Nat.le_of_ble_eq_true rfl)) dX7_findLeast_90 ⟨Nat.zero_le _, Nat.zero_le _⟩) hS (fr_all hD hS hA) (fun H locs hP hD hS => ?_)
      obtain ⟨least_13, e_least_13, hF⟩ := nm_ex hF
      refine kc_last (j := 2) (g := least_13) hx hb hK hP hD hS 4 1 rfl rfl (by decide) (by decide) dX7_findLeast_93 e_least_13 (fun H locs hP hD hS => ?_)
      have hP : va_P (dC, dI) vwCl (mW cI cJ h a forms prime turns lineT lineU kinds upper lower numbers q_1 base_2 least_13 table rows_12 lists listSize tried other line makers touches made kindForm kindTurns kindWays) H := hP
      have hD : va_D A (mW cI cJ h a forms prime turns lineT lineU kinds upper lower numbers q_1 base_2 least_13 table rows_12 lists listSize tried other line makers touches made kindForm kindTurns kindWays) := hD
      refine lv_aload_n hx hb dX7_findLeast_94 rfl (lv_at hl 1 rfl) ?_
      refine lv_aload_n hx hb dX7_findLeast_95 rfl (lv_at hl 1 rfl) ?_
      refine va_get (D := (dC, dI)) (ci := 5) (v := .ref (a 4)) (C := RX7) (T := TX7) (N := 25) hx hb hts hinX7 hown hK hP 0 rfl rfl 5 (by decide) hf_24 (fun _ h9 => h9) rfl dX7_findLeast_96 ?_
      refine lv_iconst (v := 0) hx hb dX7_findLeast_99 (by decide) ?_
      refine kc_lald (j := 0) hx hb hK hP 4 1 rfl rfl (by decide) (by decide) dX7_findLeast_100 ?_
      refine lv_aload_n hx hb dX7_findLeast_101 rfl (lv_at hl 1 rfl) ?_
      refine va_get (D := (dC, dI)) (ci := 5) (v := .ref (a 4)) (C := RX7) (T := TX7) (N := 25) hx hb hts hinX7 hown hK hP 0 rfl rfl 5 (by decide) hf_24 (fun _ h9 => h9) rfl dX7_findLeast_102 ?_
      refine lv_iconst (v := 1) hx hb dX7_findLeast_105 (by decide) ?_
      refine kc_lald (j := 1) hx hb hK hP 4 1 rfl rfl (by decide) (by decide) dX7_findLeast_106 ?_
      refine lv_aload_n hx hb dX7_findLeast_107 rfl (lv_at hl 1 rfl) ?_
      refine va_get (D := (dC, dI)) (ci := 5) (v := .ref (a 4)) (C := RX7) (T := TX7) (N := 25) hx hb hts hinX7 hown hK hP 0 rfl rfl 5 (by decide) hf_24 (fun _ h9 => h9) rfl dX7_findLeast_108 ?_
      refine lv_iconst (v := 2) hx hb dX7_findLeast_111 (by decide) ?_
      refine kc_lald (j := 2) hx hb hK hP 4 1 rfl rfl (by decide) (by decide) dX7_findLeast_112 ?_
      obtain ⟨lists_14, listSize_15, hc, hF⟩ := bd2_of hF
      refine mc_v (va_runV (As := [.long (least_13 0), .long (least_13 1), .long (least_13 2)]) (rest := []) ⟨hx, hb, hml, hown, hts⟩ (c_X7_listRows l dC dI cI cJ h a fu H.size forms prime turns lineT lineU kinds upper lower numbers q_1 base_2 least_13 table rows_12 lists listSize tried other line makers touches made kindForm kindTurns kindWays (least_13 0) (least_13 1) (least_13 2) lists_14 listSize_15 hc) (cwV 3 hts g_X7_findLeast_X7_listRows rfl rfl rfl (by decide +kernel) ⟨Nat.le_of_ble_eq_true rfl, Nat.le_of_ble_eq_true rfl⟩) ⟨mPc_blind, va_recv hK hP (ci := 5) (q0 := 0) rfl rfl, mPc_at hK hP hD⟩ rfl rfl hl.1 rfl (lv_room (Nat.le_of_ble_eq_true rfl)) dX7_findLeast_113 ⟨Nat.zero_le _, Nat.zero_le _⟩) hS (fr_all hD hS hA) (fun H locs hP hD hS => ?_)
      refine lv_aload_n hx hb dX7_findLeast_116 rfl (lv_at hl 1 rfl) ?_
      refine lv_iconst (v := 0) hx hb dX7_findLeast_117 (by decide) ?_
      refine va_put (D := (dC, dI)) (ci := 5) (v := .int (0 : Int32)) (ty := .int) (C := RX7) (T := TX7) (N := 25) hx hb hts hinX7 tyX7 tyX7_ok nmX7 hown hK hP hD hS 0 rfl rfl 6 (by decide) hf_110 (fun _ h9 => h9) rfl (by decide +kernel) rfl rfl (Nat.le_of_ble_eq_true rfl) dX7_findLeast_118 (fun H locs hP hD hS => ?_)
      have hP : va_P (dC, dI) vwCl (mW cI cJ h a forms prime (0 : Int32) lineT lineU kinds upper lower numbers q_1 base_2 least_13 table rows_12 lists_14 listSize_15 tried other line makers touches made kindForm kindTurns kindWays) H := hP
      have hD : va_D A (mW cI cJ h a forms prime (0 : Int32) lineT lineU kinds upper lower numbers q_1 base_2 least_13 table rows_12 lists_14 listSize_15 tried other line makers touches made kindForm kindTurns kindWays) := hD
      refine lv_iconst (v := 0) hx hb dX7_findLeast_121 (by decide) ?_
      refine lv_istore_n (lv' := [(3, .int (0 : Int32)), (1, .long s_4), (0, .ref h)]) hx hb dX7_findLeast_122 rfl hl (by decide) rfl (fun ls hl => ?_)
      have hL123 : ∀ n : Nat, ∀ (x3_16 : Int32) (turns_17 : Int32) (least_18 : Nat → Int64) (table_19 : Nat → Int64) (tried_20 : Nat → Int64) (H : Heap) (locs : List Loc) (ls : Array Slot), va_P (dC, dI) vwCl (mW cI cJ h a forms prime turns_17 lineT lineU kinds upper lower numbers q_1 base_2 least_18 table_19 rows_12 lists_14 listSize_15 tried_20 other line makers touches made kindForm kindTurns kindWays) H → va_D A (mW cI cJ h a forms prime turns_17 lineT lineU kinds upper lower numbers q_1 base_2 least_18 table_19 rows_12 lists_14 listSize_15 tried_20 other line makers touches made kindForm kindTurns kindWays) → va_S A s.heap H locs → lv_has ls 6 [(0, .ref h), (3, .int x3_16)] → fX7_findLeast_L123 listSize_15 q_1 base_2 rows_12 lists_14 fu n x3_16 turns_17 least_18 table_19 tried_20 = some (o_turns, o_q, o_base, o_least, o_table, o_rows, o_lists, o_listSize, o_tried) → W p l e rmX7_findLeast s m ([.ref h] : List Value).toArray below meth c H locs 0 0 Q (F0 m 123 ls []) := by
        intro n
        induction n with
        | zero => intro x3_16 turns_17 least_18 table_19 tried_20 H locs ls hP hD hS hl hF; rw [fX7_findLeast_L123] at hF; cases hF
        | succ n ih123 =>
          intro x3_16 turns_17 least_18 table_19 tried_20 H locs ls hP hD hS hl hF
          rw [fX7_findLeast_L123] at hF
          refine lv_iload_n hx hb dX7_findLeast_123 rfl (lv_at hl 1 rfl) ?_
          refine lv_aload_n hx hb dX7_findLeast_124 rfl (lv_at hl 0 rfl) ?_
          refine va_get (D := (dC, dI)) (ci := 5) (v := .ref (a 8)) (C := RX7) (T := TX7) (N := 25) hx hb hts hinX7 hown hK hP 0 rfl rfl 10 (by decide) hf_36 (fun _ h9 => h9) rfl dX7_findLeast_125 ?_
          refine lv_iconst (v := 0) hx hb dX7_findLeast_128 (by decide) ?_
          refine kc_iald (j := 0) hx hb hK hP 8 0 rfl rfl (by decide) (by decide) dX7_findLeast_129 ?_
          refine lv_icmp_ge (tgt := 202) hx hb dX7_findLeast_130 (by decide) (fun c0 => ?_) (fun c0 => ?_)
          · have hF := if_t hF c0
            obtain ⟨q0, q1, q2, q3, q4, q5, q6, q7, q8⟩ := sm9 hF
            have hP : va_P (dC, dI) vwCl (mW cI cJ h a forms prime o_turns lineT lineU kinds upper lower numbers o_q o_base o_least o_table o_rows o_lists o_listSize o_tried other line makers touches made kindForm kindTurns kindWays) H := by rw [← q0, ← q1, ← q2, ← q3, ← q4, ← q5, ← q6, ← q7, ← q8]; exact hP
            have hD : va_D A (mW cI cJ h a forms prime o_turns lineT lineU kinds upper lower numbers o_q o_base o_least o_table o_rows o_lists o_listSize o_tried other line makers touches made kindForm kindTurns kindWays) := by rw [← q0, ← q1, ← q2, ← q3, ← q4, ← q5, ← q6, ← q7, ← q8]; exact hD
            refine W_Qe hQ ?_
            exact W.vret hx hb hr (fun t ht hW => ⟨⟨(), rfl, trivial, by rw [ht]; exact hP, va_K.moved hW.alike hK, hD⟩, hS.F ht⟩) hS.2.2 dX7_findLeast_202
          · have hF := if_f hF c0
            refine lv_iconst (v := 0) hx hb dX7_findLeast_133 (by decide) ?_
            refine lv_istore (lv' := [(4, .int (0 : Int32)), (0, .ref h), (3, .int x3_16)]) hx hb dX7_findLeast_134 hl (by decide) rfl (fun ls hl => ?_)
            obtain ⟨k196, e_k196, hF⟩ := nm_ex hF
            have hk196 : ∀ (turns_41 : Int32) (least_42 : Nat → Int64) (table_43 : Nat → Int64) (tried_44 : Nat → Int64) (H : Heap) (locs : List Loc) (ls : Array Slot), va_P (dC, dI) vwCl (mW cI cJ h a forms prime turns_41 lineT lineU kinds upper lower numbers q_1 base_2 least_42 table_43 rows_12 lists_14 listSize_15 tried_44 other line makers touches made kindForm kindTurns kindWays) H → va_D A (mW cI cJ h a forms prime turns_41 lineT lineU kinds upper lower numbers q_1 base_2 least_42 table_43 rows_12 lists_14 listSize_15 tried_44 other line makers touches made kindForm kindTurns kindWays) → va_S A s.heap H locs → lv_has ls 6 [(0, .ref h), (3, .int x3_16)] → k196 turns_41 least_42 table_43 tried_44 = some (o_turns, o_q, o_base, o_least, o_table, o_rows, o_lists, o_listSize, o_tried) → W p l e rmX7_findLeast s m ([.ref h] : List Value).toArray below meth c H locs 0 0 Q (F0 m 196 ls []) := by
              intro turns_41 least_42 table_43 tried_44 H locs ls hP hD hS hl hF
              have hF := ka4 e_k196 hF
              obtain ⟨x3_45, e_x3_45, hF⟩ := nm_ex hF
              refine lv_iinc (v := x3_45) (lv' := [(3, .int x3_45), (0, .ref h)]) hx hb dX7_findLeast_196 hl (k := 1) rfl (by rw [e_x3_45]; rfl) (by decide) rfl (fun ls hl => ?_)
              refine lv_goto (tgt := 123) hx hb dX7_findLeast_199 (by decide) ?_
              exact ih123 x3_45 turns_41 least_42 table_43 tried_44 H locs ls hP hD hS (lv_sub hl [1, 0] rfl) hF
            clear e_k196
            have hL136 : ∀ n : Nat, ∀ (x4_21 : Int32) (turns_22 : Int32) (least_23 : Nat → Int64) (table_24 : Nat → Int64) (tried_25 : Nat → Int64) (H : Heap) (locs : List Loc) (ls : Array Slot), va_P (dC, dI) vwCl (mW cI cJ h a forms prime turns_22 lineT lineU kinds upper lower numbers q_1 base_2 least_23 table_24 rows_12 lists_14 listSize_15 tried_25 other line makers touches made kindForm kindTurns kindWays) H → va_D A (mW cI cJ h a forms prime turns_22 lineT lineU kinds upper lower numbers q_1 base_2 least_23 table_24 rows_12 lists_14 listSize_15 tried_25 other line makers touches made kindForm kindTurns kindWays) → va_S A s.heap H locs → lv_has ls 6 [(0, .ref h), (3, .int x3_16), (4, .int x4_21)] → fX7_findLeast_L136 listSize_15 k196 fu q_1 base_2 lists_14 x3_16 n x4_21 turns_22 least_23 table_24 tried_25 = some (o_turns, o_q, o_base, o_least, o_table, o_rows, o_lists, o_listSize, o_tried) → W p l e rmX7_findLeast s m ([.ref h] : List Value).toArray below meth c H locs 0 0 Q (F0 m 136 ls []) := by
              intro n
              induction n with
              | zero => intro x4_21 turns_22 least_23 table_24 tried_25 H locs ls hP hD hS hl hF; rw [fX7_findLeast_L136] at hF; cases hF
              | succ n ih136 =>
                intro x4_21 turns_22 least_23 table_24 tried_25 H locs ls hP hD hS hl hF
                rw [fX7_findLeast_L136] at hF
                refine lv_iload hx hb dX7_findLeast_136 (lv_at hl 2 rfl) ?_
                refine lv_aload_n hx hb dX7_findLeast_138 rfl (lv_at hl 0 rfl) ?_
                refine va_get (D := (dC, dI)) (ci := 5) (v := .ref (a 8)) (C := RX7) (T := TX7) (N := 25) hx hb hts hinX7 hown hK hP 0 rfl rfl 10 (by decide) hf_36 (fun _ h9 => h9) rfl dX7_findLeast_139 ?_
                refine lv_iconst (v := 1) hx hb dX7_findLeast_142 (by decide) ?_
                refine kc_iald (j := 1) hx hb hK hP 8 0 rfl rfl (by decide) (by decide) dX7_findLeast_143 ?_
                refine lv_icmp_ge (tgt := 196) hx hb dX7_findLeast_144 (by decide) (fun c0 => ?_) (fun c0 => ?_)
                · have hF := if_t hF c0
                  exact hk196 turns_22 least_23 table_24 tried_25 H locs ls hP hD hS (lv_sub hl [0, 1] rfl) hF
                · have hF := if_f hF c0
                  refine lv_iconst (v := 0) hx hb dX7_findLeast_147 (by decide) ?_
                  refine lv_istore (lv' := [(5, .int (0 : Int32)), (0, .ref h), (3, .int x3_16), (4, .int x4_21)]) hx hb dX7_findLeast_148 hl (by decide) rfl (fun ls hl => ?_)
                  obtain ⟨k190, e_k190, hF⟩ := nm_ex hF
                  have hk190 : ∀ (turns_36 : Int32) (least_37 : Nat → Int64) (table_38 : Nat → Int64) (tried_39 : Nat → Int64) (H : Heap) (locs : List Loc) (ls : Array Slot), va_P (dC, dI) vwCl (mW cI cJ h a forms prime turns_36 lineT lineU kinds upper lower numbers q_1 base_2 least_37 table_38 rows_12 lists_14 listSize_15 tried_39 other line makers touches made kindForm kindTurns kindWays) H → va_D A (mW cI cJ h a forms prime turns_36 lineT lineU kinds upper lower numbers q_1 base_2 least_37 table_38 rows_12 lists_14 listSize_15 tried_39 other line makers touches made kindForm kindTurns kindWays) → va_S A s.heap H locs → lv_has ls 6 [(0, .ref h), (3, .int x3_16), (4, .int x4_21)] → k190 turns_36 least_37 table_38 tried_39 = some (o_turns, o_q, o_base, o_least, o_table, o_rows, o_lists, o_listSize, o_tried) → W p l e rmX7_findLeast s m ([.ref h] : List Value).toArray below meth c H locs 0 0 Q (F0 m 190 ls []) := by
                    intro turns_36 least_37 table_38 tried_39 H locs ls hP hD hS hl hF
                    have hF := ka4 e_k190 hF
                    obtain ⟨x4_40, e_x4_40, hF⟩ := nm_ex hF
                    refine lv_iinc (v := x4_40) (lv' := [(4, .int x4_40), (0, .ref h), (3, .int x3_16)]) hx hb dX7_findLeast_190 hl (k := 2) rfl (by rw [e_x4_40]; rfl) (by decide) rfl (fun ls hl => ?_)
                    refine lv_goto (tgt := 136) hx hb dX7_findLeast_193 (by decide) ?_
                    exact ih136 x4_40 turns_36 least_37 table_38 tried_39 H locs ls hP hD hS (lv_sub hl [1, 2, 0] rfl) hF
                  clear e_k190
                  have hL150 : ∀ n : Nat, ∀ (x5_26 : Int32) (turns_27 : Int32) (least_28 : Nat → Int64) (table_29 : Nat → Int64) (tried_30 : Nat → Int64) (H : Heap) (locs : List Loc) (ls : Array Slot), va_P (dC, dI) vwCl (mW cI cJ h a forms prime turns_27 lineT lineU kinds upper lower numbers q_1 base_2 least_28 table_29 rows_12 lists_14 listSize_15 tried_30 other line makers touches made kindForm kindTurns kindWays) H → va_D A (mW cI cJ h a forms prime turns_27 lineT lineU kinds upper lower numbers q_1 base_2 least_28 table_29 rows_12 lists_14 listSize_15 tried_30 other line makers touches made kindForm kindTurns kindWays) → va_S A s.heap H locs → lv_has ls 6 [(0, .ref h), (3, .int x3_16), (4, .int x4_21), (5, .int x5_26)] → fX7_findLeast_L150 listSize_15 k190 fu q_1 base_2 lists_14 x3_16 x4_21 n x5_26 turns_27 least_28 table_29 tried_30 = some (o_turns, o_q, o_base, o_least, o_table, o_rows, o_lists, o_listSize, o_tried) → W p l e rmX7_findLeast s m ([.ref h] : List Value).toArray below meth c H locs 0 0 Q (F0 m 150 ls []) := by
                    intro n
                    induction n with
                    | zero => intro x5_26 turns_27 least_28 table_29 tried_30 H locs ls hP hD hS hl hF; rw [fX7_findLeast_L150] at hF; cases hF
                    | succ n ih150 =>
                      intro x5_26 turns_27 least_28 table_29 tried_30 H locs ls hP hD hS hl hF
                      rw [fX7_findLeast_L150] at hF
                      refine lv_iload hx hb dX7_findLeast_150 (lv_at hl 3 rfl) ?_
                      refine lv_aload_n hx hb dX7_findLeast_152 rfl (lv_at hl 0 rfl) ?_
                      refine va_get (D := (dC, dI)) (ci := 5) (v := .ref (a 8)) (C := RX7) (T := TX7) (N := 25) hx hb hts hinX7 hown hK hP 0 rfl rfl 10 (by decide) hf_36 (fun _ h9 => h9) rfl dX7_findLeast_153 ?_
                      refine lv_iconst (v := 2) hx hb dX7_findLeast_156 (by decide) ?_
                      refine kc_iald (j := 2) hx hb hK hP 8 0 rfl rfl (by decide) (by decide) dX7_findLeast_157 ?_
                      refine lv_icmp_ge (tgt := 190) hx hb dX7_findLeast_158 (by decide) (fun c0 => ?_) (fun c0 => ?_)
                      · have hF := if_t hF c0
                        exact hk190 turns_27 least_28 table_29 tried_30 H locs ls hP hD hS (lv_sub hl [0, 1, 2] rfl) hF
                      · have hF := if_f hF c0
                        refine lv_aload_n hx hb dX7_findLeast_161 rfl (lv_at hl 0 rfl) ?_
                        refine lv_iconst (v := 3) hx hb dX7_findLeast_162 (by decide) ?_
                        refine lv_iload_n hx hb dX7_findLeast_163 rfl (lv_at hl 1 rfl) ?_
                        refine lv_imul hx hb dX7_findLeast_164 ?_
                        refine lv_sipush (v := (1800)) hx hb dX7_findLeast_165 (by decide) ?_
                        refine lv_iconst (v := 3) hx hb dX7_findLeast_168 (by decide) ?_
                        refine lv_iload hx hb dX7_findLeast_169 (lv_at hl 2 rfl) ?_
                        refine lv_imul hx hb dX7_findLeast_171 ?_
                        refine lv_iadd hx hb dX7_findLeast_172 ?_
                        refine lv_sipush (v := (3600)) hx hb dX7_findLeast_173 (by decide) ?_
                        refine lv_iconst (v := 3) hx hb dX7_findLeast_176 (by decide) ?_
                        refine lv_iload hx hb dX7_findLeast_177 (lv_at hl 3 rfl) ?_
                        refine lv_imul hx hb dX7_findLeast_179 ?_
                        refine lv_iadd hx hb dX7_findLeast_180 ?_
                        obtain ⟨turns_31, least_32, table_33, tried_34, hc, hF⟩ := bd4_of hF
                        refine mc_v (va_runV (As := [.int ((3 : Int32) * x3_16), .int ((1800 : Int32) + ((3 : Int32) * x4_21)), .int ((3600 : Int32) + ((3 : Int32) * x5_26))]) (rest := []) ⟨hx, hb, hml, hown, hts⟩ (c_X7_tryRows l dC dI cI cJ h a fu H.size forms prime turns_27 lineT lineU kinds upper lower numbers q_1 base_2 least_28 table_29 rows_12 lists_14 listSize_15 tried_30 other line makers touches made kindForm kindTurns kindWays ((3 : Int32) * x3_16) ((1800 : Int32) + ((3 : Int32) * x4_21)) ((3600 : Int32) + ((3 : Int32) * x5_26)) turns_31 least_32 table_33 tried_34 hc) (cwV 3 hts g_X7_findLeast_X7_tryRows rfl rfl rfl (by decide +kernel) ⟨Nat.le_of_ble_eq_true rfl, Nat.le_of_ble_eq_true rfl⟩) ⟨mPc_blind, va_recv hK hP (ci := 5) (q0 := 0) rfl rfl, mPc_at hK hP hD⟩ rfl rfl hl.1 rfl (lv_room (Nat.le_of_ble_eq_true rfl)) dX7_findLeast_181 ⟨Nat.zero_le _, Nat.zero_le _⟩) hS (fr_all hD hS hA) (fun H locs hP hD hS => ?_)
                        obtain ⟨x5_35, e_x5_35, hF⟩ := nm_ex hF
                        refine lv_iinc (v := x5_35) (lv' := [(5, .int x5_35), (0, .ref h), (3, .int x3_16), (4, .int x4_21)]) hx hb dX7_findLeast_184 hl (k := 3) rfl (by rw [e_x5_35]; rfl) (by decide) rfl (fun ls hl => ?_)
                        refine lv_goto (tgt := 150) hx hb dX7_findLeast_187 (by decide) ?_
                        exact ih150 x5_35 turns_31 least_32 table_33 tried_34 H locs ls hP hD hS (lv_sub hl [1, 2, 3, 0] rfl) hF
                  exact hL150 fu (0 : Int32) turns_22 least_23 table_24 tried_25 H locs ls hP hD hS (lv_sub hl [1, 2, 3, 0] rfl) hF
            exact hL136 fu (0 : Int32) turns_17 least_18 table_19 tried_20 H locs ls hP hD hS (lv_sub hl [1, 2, 0] rfl) hF
      exact hL123 fu (0 : Int32) (0 : Int32) least_13 table tried H locs ls hP hD hS (lv_sub hl [2, 0] rfl) hF
    clear e_k57
    refine lv_if_le (tgt := 56) hx hb dX7_findLeast_44 (by decide) (fun c0 => ?_) (fun c0 => ?_)
    · have c0 := (lg_cmp_le _ _).mp c0
      have hF := if_t hF c0
      refine lv_lload_n hx hb dX7_findLeast_56 rfl (lv_at hl 0 rfl) ?_
      exact hk57 s_3 H locs ls hP hD hS (lv_sub hl [1] rfl) hF
    · have c0 := (not_congr (lg_cmp_le _ _)).mp c0
      have hF := if_f hF c0
      refine lv_aload_n hx hb dX7_findLeast_47 rfl (lv_at hl 1 rfl) ?_
      refine va_get (D := (dC, dI)) (ci := 5) (v := .ref (a 2)) (C := RX7) (T := TX7) (N := 25) hx hb hts hinX7 hown hK hP 0 rfl rfl 3 (by decide) hf_17 (fun _ h9 => h9) rfl dX7_findLeast_48 ?_
      refine lv_iconst (v := 2) hx hb dX7_findLeast_51 (by decide) ?_
      refine kc_lald (j := 2) hx hb hK hP 2 1 rfl rfl (by decide) (by decide) dX7_findLeast_52 ?_
      refine lv_goto (tgt := 57) hx hb dX7_findLeast_53 (by decide) ?_
      exact hk57 (q_1 2) H locs ls hP hD hS (lv_sub hl [1] rfl) hF
  clear e_k35
  refine lv_if_le (tgt := 29) hx hb dX7_findLeast_17 (by decide) (fun c0 => ?_) (fun c0 => ?_)
  · have c0 := (lg_cmp_le _ _).mp c0
    have hF := if_t hF c0
    refine lv_aload_n hx hb dX7_findLeast_29 rfl (lv_at hl 0 rfl) ?_
    refine va_get (D := (dC, dI)) (ci := 5) (v := .ref (a 2)) (C := RX7) (T := TX7) (N := 25) hx hb hts hinX7 hown hK hP 0 rfl rfl 3 (by decide) hf_17 (fun _ h9 => h9) rfl dX7_findLeast_30 ?_
    refine lv_iconst (v := 1) hx hb dX7_findLeast_33 (by decide) ?_
    refine kc_lald (j := 1) hx hb hK hP 2 1 rfl rfl (by decide) (by decide) dX7_findLeast_34 ?_
    exact hk35 (q_1 1) H locs ls hP hD hS (lv_sub hl [0] rfl) hF
  · have c0 := (not_congr (lg_cmp_le _ _)).mp c0
    have hF := if_f hF c0
    refine lv_aload_n hx hb dX7_findLeast_20 rfl (lv_at hl 0 rfl) ?_
    refine va_get (D := (dC, dI)) (ci := 5) (v := .ref (a 2)) (C := RX7) (T := TX7) (N := 25) hx hb hts hinX7 hown hK hP 0 rfl rfl 3 (by decide) hf_17 (fun _ h9 => h9) rfl dX7_findLeast_21 ?_
    refine lv_iconst (v := 0) hx hb dX7_findLeast_24 (by decide) ?_
    refine kc_lald (j := 0) hx hb hK hP 2 1 rfl rfl (by decide) (by decide) dX7_findLeast_25 ?_
    refine lv_goto (tgt := 35) hx hb dX7_findLeast_26 (by decide) ?_
    exact hk35 (q_1 0) H locs ls hP hD hS (lv_sub hl [0] rfl) hF
def fX7_findLeastOf (fu : Nat) (numbers : Nat → Int32) (q : Nat → Int64) (base : Nat → Int64) (least : Nat → Int64) (table : Nat → Int64) (rows : Nat → Int64) (lists : Nat → Int64) (listSize : Nat → Int32) (tried : Nat → Int64) (p0 : Int32) : Option ((Int32) × (Nat → Int64) × (Nat → Int64) × (Nat → Int64) × (Nat → Int64) × (Nat → Int64) × (Nat → Int64) × (Nat → Int32) × (Nat → Int64)) :=
  bd1 (fX7_hold fu numbers q p0) (fun (q_1 : Nat → Int64) => bd9 (fX7_findLeast fu q_1 base least table rows lists listSize tried) (fun (turns_2 : Int32) (q_3 : Nat → Int64) (base_4 : Nat → Int64) (least_5 : Nat → Int64) (table_6 : Nat → Int64) (rows_7 : Nat → Int64) (lists_8 : Nat → Int64) (listSize_9 : Nat → Int32) (tried_10 : Nat → Int64) => some (turns_2, q_3, base_4, least_5, table_6, rows_7, lists_8, listSize_9, tried_10)))
def lkX7_findLeastOf : List Cond := []
def vX7_findLeastOf : List Cond := .code yX7_findLeastOf cX7_findLeastOf 2 none :: (lkX7_findLeastOf ++ (wsV RX7 138 RX7 yX7_hold vX7_hold ++ (wsV RX7 142 RX7 yX7_findLeast vX7_findLeast ++ ([]))))
theorem q_X7_findLeastOf : ∀ w ∈ vX7_findLeastOf, goodWord w = true := gd_cons rfl (gd_app (by decide +kernel) (gd_app (gd_V q_X7_hold) (gd_app (gd_V q_X7_findLeast) gd_nil)))
theorem g_X7_findLeastOf_X7_hold : GoodIn vX7_findLeastOf (wsV RX7 138 RX7 yX7_hold vX7_hold) := gi_of (fun w h => List.mem_cons_of_mem _ (List.mem_append_right _ (List.mem_append_left _ h))) (gd_V q_X7_hold)
theorem g_X7_findLeastOf_X7_findLeast : GoodIn vX7_findLeastOf (wsV RX7 142 RX7 yX7_findLeast vX7_findLeast) := gi_of (fun w h => List.mem_cons_of_mem _ (List.mem_append_right _ (List.mem_append_right _ (List.mem_append_left _ h)))) (gd_V q_X7_findLeast)
abbrev rmX7_findLeastOf : Room := { frames := 5, cells := 0, slots := 0, locals := 139 }
set_option maxHeartbeats 4000000 in
set_option maxRecDepth 100000 in
theorem c_X7_findLeastOf (l : Launch) (dC : Nat → ClassId) (dI : Nat → Nat → Nat) (cI : ClassId) (cJ : ClassId) (h : Nat) (a : Nat → Nat) (fu : Nat) (sz : Nat) (forms : Int32) (prime : Int32) (turns : Int32) (lineT : Int32) (lineU : Int32) (kinds : Int32) (upper : Int64) (lower : Int64) (numbers : Nat → Int32) (q : Nat → Int64) (base : Nat → Int64) (least : Nat → Int64) (table : Nat → Int64) (rows : Nat → Int64) (lists : Nat → Int64) (listSize : Nat → Int32) (tried : Nat → Int64) (other : Nat → Int64) (line : Nat → Int64) (makers : Nat → Int64) (touches : Nat → Int64) (made : Nat → Int64) (kindForm : Nat → Int64) (kindTurns : Nat → Int32) (kindWays : Nat → Int32) (p0 : Int32) (o_turns : Int32) (o_q : Nat → Int64) (o_base : Nat → Int64) (o_least : Nat → Int64) (o_table : Nat → Int64) (o_rows : Nat → Int64) (o_lists : Nat → Int64) (o_listSize : Nat → Int32) (o_tried : Nat → Int64) (hF : fX7_findLeastOf fu numbers q base least table rows lists listSize tried p0 = some (o_turns, o_q, o_base, o_least, o_table, o_rows, o_lists, o_listSize, o_tried)) : Met l yX7_findLeastOf vX7_findLeastOf rmX7_findLeastOf (va_Pc [.ref h, .int p0] (mPc (dC, dI) vwCl (mW cI cJ h a forms prime turns lineT lineU kinds upper lower numbers q base least table rows lists listSize tried other line makers touches made kindForm kindTurns kindWays) [(cI, .int), (cJ, .long)] sz)) (va_Qv (fun (_ : Unit) => True) (mPo (dC, dI) vwCl (mW cI cJ h a forms prime o_turns lineT lineU kinds upper lower numbers o_q o_base o_least o_table o_rows o_lists o_listSize o_tried other line makers touches made kindForm kindTurns kindWays) [(cI, .int), (cJ, .long)] (va_A (mW cI cJ h a forms prime turns lineT lineU kinds upper lower numbers q base least table rows lists listSize tried other line makers touches made kindForm kindTurns kindWays) sz)) (va_A (mW cI cJ h a forms prime turns lineT lineU kinds upper lower numbers q base least table rows lists listSize tried other line makers touches made kindForm kindTurns kindWays) sz)) 0 0 (va_A (mW cI cJ h a forms prime turns lineT lineU kinds upper lower numbers q base least table rows lists listSize tried other line makers touches made kindForm kindTurns kindWays) sz) := by
  refine Met.ofW (cc := cX7_findLeastOf) (maxL := 2) (ret := none) (by decide) rfl ?_
  intro p e s m args below meth c s₁ B hml hv
  obtain ⟨rfl, hsz, hP, hK, hD0⟩ := hv
  have hx := B.exec
  have hb := B.bytes
  have hr := B.returns
  have hts := atoms_spec (ws := vX7_findLeastOf) B.pre
  have hlk : ∀ w ∈ lkX7_findLeastOf, w.before _ s = true := fun w h => hts w (List.mem_cons_of_mem _ (List.mem_append_left _ h))
  have hown : s.vm.findClass RX7 = some m.cls := findClass_of_methodNamed B.named
  have hlocks := B.notSynchronized
  subst hsz
  have hD := hD0.self (sz := s.heap.size)
  generalize hAe : va_A (mW cI cJ h a forms prime turns lineT lineU kinds upper lower numbers q base least table rows lists listSize tried other line makers touches made kindForm kindTurns kindWays) s.heap.size = A at hD ⊢
  have hA : ∀ q : Nat, s.heap.size ≤ q → A q := fun q h => by rw [← hAe]; exact Or.inr h
  have hS : va_S A s.heap s.heap [] := va_S.rf
  have hl := lv_entry ([.ref h, .int p0] : List Value) (n := 2) (Nat.le_of_ble_eq_true rfl)
  rw [lg_entry_eq]
  generalize (lg_sl ([.ref h, .int p0] : List Value) ++ List.replicate (2 - (lg_sl ([.ref h, .int p0] : List Value)).length) Slot.unset).toArray = ls at hl ⊢
  have hl : lv_has ls 2 [(0, .ref h), (1, .int p0)] := hl
  unfold fX7_findLeastOf at hF
  refine W_Q (fun Q hQ => ?_)
  have hP : va_P (dC, dI) vwCl (mW cI cJ h a forms prime turns lineT lineU kinds upper lower numbers q base least table rows lists listSize tried other line makers touches made kindForm kindTurns kindWays) s.heap := hP
  refine W_HL (fun H locs eH eL => ?_)
  rw [← eH] at hP
  have hS : va_S A s.heap H locs := by rw [eH, eL]; exact hS
  refine lv_aload_n hx hb dX7_findLeastOf_0 rfl (lv_at hl 0 rfl) ?_
  refine lv_iload_n hx hb dX7_findLeastOf_1 rfl (lv_at hl 1 rfl) ?_
  obtain ⟨q_1, hc, hF⟩ := bd1_of hF
  refine mc_v (va_runV (As := [.int p0]) (rest := []) ⟨hx, hb, hml, hown, hts⟩ (c_X7_hold l dC dI cI cJ h a fu H.size forms prime turns lineT lineU kinds upper lower numbers q base least table rows lists listSize tried other line makers touches made kindForm kindTurns kindWays p0 q_1 hc) (cwV 1 hts g_X7_findLeastOf_X7_hold rfl rfl rfl (by decide +kernel) ⟨Nat.le_of_ble_eq_true rfl, Nat.le_of_ble_eq_true rfl⟩) ⟨mPc_blind, va_recv hK hP (ci := 5) (q0 := 0) rfl rfl, mPc_at hK hP hD⟩ rfl rfl hl.1 rfl (lv_room (Nat.le_of_ble_eq_true rfl)) dX7_findLeastOf_2 ⟨Nat.zero_le _, Nat.zero_le _⟩) hS (fr_all hD hS hA) (fun H locs hP hD hS => ?_)
  refine lv_aload_n hx hb dX7_findLeastOf_5 rfl (lv_at hl 0 rfl) ?_
  obtain ⟨turns_2, q_3, base_4, least_5, table_6, rows_7, lists_8, listSize_9, tried_10, hc, hF⟩ := bd9_of hF
  refine mc_v (va_runV (As := []) (rest := []) ⟨hx, hb, hml, hown, hts⟩ (c_X7_findLeast l dC dI cI cJ h a fu H.size forms prime turns lineT lineU kinds upper lower numbers q_1 base least table rows lists listSize tried other line makers touches made kindForm kindTurns kindWays  turns_2 q_3 base_4 least_5 table_6 rows_7 lists_8 listSize_9 tried_10 hc) (cwV 0 hts g_X7_findLeastOf_X7_findLeast rfl rfl rfl (by decide +kernel) ⟨Nat.le_of_ble_eq_true rfl, Nat.le_of_ble_eq_true rfl⟩) ⟨mPc_blind, va_recv hK hP (ci := 5) (q0 := 0) rfl rfl, mPc_at hK hP hD⟩ rfl rfl hl.1 rfl (lv_room (Nat.le_of_ble_eq_true rfl)) dX7_findLeastOf_6 ⟨Nat.zero_le _, Nat.zero_le _⟩) hS (fr_all hD hS hA) (fun H locs hP hD hS => ?_)
  obtain ⟨q0, q1, q2, q3, q4, q5, q6, q7, q8⟩ := sm9 hF
  have hP : va_P (dC, dI) vwCl (mW cI cJ h a forms prime o_turns lineT lineU kinds upper lower numbers o_q o_base o_least o_table o_rows o_lists o_listSize o_tried other line makers touches made kindForm kindTurns kindWays) H := by rw [← q0, ← q1, ← q2, ← q3, ← q4, ← q5, ← q6, ← q7, ← q8]; exact hP
  have hD : va_D A (mW cI cJ h a forms prime o_turns lineT lineU kinds upper lower numbers o_q o_base o_least o_table o_rows o_lists o_listSize o_tried other line makers touches made kindForm kindTurns kindWays) := by rw [← q0, ← q1, ← q2, ← q3, ← q4, ← q5, ← q6, ← q7, ← q8]; exact hD
  refine W_Qe hQ ?_
  exact W.vret hx hb hr (fun t ht hW => ⟨⟨(), rfl, trivial, by rw [ht]; exact hP, va_K.moved hW.alike hK, hD⟩, hS.F ht⟩) hS.2.2 dX7_findLeastOf_9
