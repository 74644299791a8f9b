def fX3_shift_L79 (r_six_9 : Nat → Int32) (p0 : Int32) (p1 : Int32) (p2 : Int32) : Nat → (Int32) → (Nat → Int32) → Option ((Nat → Int32) × (Nat → Int32))
  | 0, _, _ => none
  | n + 1, x4_10, r_rows_11 => if (3 : Int32) ≤ x4_10 then (some (r_six_9, r_rows_11)) else (nm (((3 : Int32) * p0) + x4_10) (fun (v_12 : Int32) => if okI v_12 9 then nm (((3 : Int32) * p1) + x4_10) (fun (v_13 : Int32) => if okI v_13 9 then nm (((3 : Int32) * p0) + x4_10) (fun (v_14 : Int32) => if okI v_14 9 then nm (upd r_rows_11 v_14.toNatClampNeg ((r_rows_11 v_12.toNatClampNeg) + (p2 * (r_rows_11 v_13.toNatClampNeg)))) (fun (r_rows_15 : Nat → Int32) => nm (x4_10 + (1 : Int32)) (fun (x4_16 : Int32) => (fX3_shift_L79 r_six_9 p0 p1 p2 n x4_16 r_rows_15))) else none) else none) else none))
def fX3_shift (fu : Nat) (r_six : Nat → Int32) (r_rows : Nat → Int32) (p0 : Int32) (p1 : Int32) (p2 : Int32) : Option ((Nat → Int32) × (Nat → Int32)) :=
  if okI p0 6 then nm (((6 : Int32) - p0) - p1) (fun (v_1 : Int32) => if okI v_1 6 then if okI p1 6 then if okI p0 6 then nm (upd r_six p0.toNatClampNeg ((r_six p0.toNatClampNeg) + (p2 * ((r_six v_1.toNatClampNeg) + (p2 * (r_six p1.toNatClampNeg)))))) (fun (r_six_2 : Nat → Int32) => nm (((6 : Int32) - p0) - p1) (fun (v_3 : Int32) => if okI v_3 6 then if okI p1 6 then nm (((6 : Int32) - p0) - p1) (fun (v_4 : Int32) => if okI v_4 6 then nm (upd r_six_2 v_4.toNatClampNeg ((r_six_2 v_3.toNatClampNeg) + (((2 : Int32) * p2) * (r_six_2 p1.toNatClampNeg)))) (fun (r_six_5 : Nat → Int32) => nm ((3 : Int32) + p1) (fun (v_6 : Int32) => if okI v_6 6 then nm ((3 : Int32) + p0) (fun (v_7 : Int32) => if okI v_7 6 then nm ((3 : Int32) + p1) (fun (v_8 : Int32) => if okI v_8 6 then nm (upd r_six_5 v_8.toNatClampNeg ((r_six_5 v_6.toNatClampNeg) + (p2 * (r_six_5 v_7.toNatClampNeg)))) (fun (r_six_9 : Nat → Int32) => (fX3_shift_L79 r_six_9 p0 p1 p2 fu (0 : Int32) r_rows)) else none) else none) else none)) else none) else none else none)) else none else none else none) else none
def lkX3_shift : List Cond := [.fieldLink RX3 7 "KinForms$Reducer" "six" "[I", .fieldLink RX3 13 "KinForms$Reducer" "rows" "[I"]
def vX3_shift : List Cond := .code yX3_shift cX3_shift 5 none :: (lkX3_shift ++ (wsX30 ++ ([])))
theorem q_X3_shift : ∀ w ∈ vX3_shift, goodWord w = true := gd_cons rfl (gd_app (by decide +kernel) (gd_app q_wsX30 gd_nil))
abbrev rmX3_shift : Room := { frames := 0, cells := 0, slots := 0, locals := 0 }
set_option maxHeartbeats 4000000 in
set_option maxRecDepth 100000 in
theorem c_X3_shift (l : Launch) (dC : Nat → ClassId) (dI : Nat → Nat → Nat) (cI : ClassId) (h : Nat) (a : Nat → Nat) (fu : Nat) (sz : Nat) (r_ties : Int32) (r_six : Nat → Int32) (r_rows : Nat → Int32) (r_box : Nat → Int32) (r_worth : Nat → Int32) (r_image : Nat → Int32) (r_best : Nat → Int32) (r_bestRows : Nat → Int32) (p0 : Int32) (p1 : Int32) (p2 : Int32) (o_r_six : Nat → Int32) (o_r_rows : Nat → Int32) (hF : fX3_shift fu r_six r_rows p0 p1 p2 = some (o_r_six, o_r_rows)) : Met l yX3_shift vX3_shift rmX3_shift (va_Pc [.ref h, .int p0, .int p1, .int p2] (mPk (dC, dI) vwCl (rW cI h a r_ties r_six r_rows r_box r_worth r_image r_best r_bestRows) [(cI, .int)] sz)) (va_Qv (fun (_ : Unit) => True) (mPo (dC, dI) vwCl (rW cI h a r_ties o_r_six o_r_rows r_box r_worth r_image r_best r_bestRows) [(cI, .int)] (va_A (rW cI h a r_ties r_six r_rows r_box r_worth r_image r_best r_bestRows) sz)) (va_A (rW cI h a r_ties r_six r_rows r_box r_worth r_image r_best r_bestRows) sz)) 0 0 (va_A (rW cI h a r_ties r_six r_rows r_box r_worth r_image r_best r_bestRows) sz) := by
  refine Met.ofW (cc := cX3_shift) (maxL := 5) (ret := none) (by decide) rfl ?_
  intro p e s m args below meth c s₁ B hml hv
  obtain ⟨rfl, hsz, hP, hK, hD0, hN⟩ := hv
  have hx := B.exec
  have hb := B.bytes
  have hr := B.returns
  have hts := atoms_spec (ws := vX3_shift) B.pre
  have hlk : ∀ w ∈ lkX3_shift, w.before _ s = true := fun w h => hts w (List.mem_cons_of_mem _ (List.mem_append_left _ h))
  have hown : s.vm.findClass RX3 = some m.cls := findClass_of_methodNamed B.named
  have hlocks := B.notSynchronized
  subst hsz
  have hD := hD0.self (sz := s.heap.size)
  generalize hAe : va_A (rW cI h a r_ties r_six r_rows r_box r_worth r_image r_best r_bestRows) s.heap.size = A at hD ⊢
  have hA : ∀ q : Nat, s.heap.size ≤ q → A q := fun q h => by rw [← hAe]; exact Or.inr h
  have hS : va_S A s.heap s.heap [] := va_S.rf
  have hinX3 : ∀ w ∈ wsX30, w ∈ vX3_shift := fun w h => List.mem_cons_of_mem _ (List.mem_append_right _ (List.mem_append_left _ h))
  have hf_7 := hlk (.fieldLink RX3 7 "KinForms$Reducer" "six" "[I") (by decide +kernel)
  have hf_13 := hlk (.fieldLink RX3 13 "KinForms$Reducer" "rows" "[I") (by decide +kernel)
  have hl := lv_entry ([.ref h, .int p0, .int p1, .int p2] : List Value) (n := 5) (Nat.le_of_ble_eq_true rfl)
  rw [lg_entry_eq]
  generalize (lg_sl ([.ref h, .int p0, .int p1, .int p2] : List Value) ++ List.replicate (5 - (lg_sl ([.ref h, .int p0, .int p1, .int p2] : List Value)).length) Slot.unset).toArray = ls at hl ⊢
  have hl : lv_has ls 5 [(0, .ref h), (1, .int p0), (2, .int p1), (3, .int p2)] := hl
  unfold fX3_shift at hF
  refine W_Q (fun Q hQ => ?_)
  have hP : va_P (dC, dI) vwCl (rW cI h a r_ties r_six r_rows r_box r_worth r_image r_best r_bestRows) s.heap := hP
  refine W_HL (fun H locs eH eL => ?_)
  rw [← eH] at hP
  have hS : va_S A s.heap H locs := by rw [eH, eL]; exact hS
  refine lv_aload_n hx hb dX3_shift_0 rfl (lv_at hl 0 rfl) ?_
  refine va_get (D := (dC, dI)) (ci := 3) (v := .ref (a 1)) (C := RX3) (T := TX3) (N := 8) hx hb hts hinX3 hown hK hP 0 rfl rfl 0 (by decide) hf_7 (fun _ h9 => h9) rfl dX3_shift_1 ?_
  refine lv_iload_n hx hb dX3_shift_4 rfl (lv_at hl 1 rfl) ?_
  refine lv_dup2_11 hx hb dX3_shift_5 rfl rfl ?_
  obtain ⟨hi, hF⟩ := ck_of hF
  refine va_iald hx hb hK hP 1 0 rfl rfl hi dX3_shift_6 ?_
  refine lv_iload_n hx hb dX3_shift_7 rfl (lv_at hl 3 rfl) ?_
  refine lv_aload_n hx hb dX3_shift_8 rfl (lv_at hl 0 rfl) ?_
  refine va_get (D := (dC, dI)) (ci := 3) (v := .ref (a 1)) (C := RX3) (T := TX3) (N := 8) hx hb hts hinX3 hown hK hP 0 rfl rfl 0 (by decide) hf_7 (fun _ h9 => h9) rfl dX3_shift_9 ?_
  refine lv_bipush (v := (6)) hx hb dX3_shift_12 (by decide) ?_
  refine lv_iload_n hx hb dX3_shift_14 rfl (lv_at hl 1 rfl) ?_
  refine lv_isub hx hb dX3_shift_15 ?_
  refine lv_iload_n hx hb dX3_shift_16 rfl (lv_at hl 2 rfl) ?_
  refine lv_isub hx hb dX3_shift_17 ?_
  refine lv_topi (fun v_1 e_v_1 => ?_)
  have hF := nm_at hF e_v_1
  obtain ⟨hi, hF⟩ := ck_of hF
  refine va_iald hx hb hK hP 1 0 rfl rfl hi dX3_shift_18 ?_
  refine lv_iload_n hx hb dX3_shift_19 rfl (lv_at hl 3 rfl) ?_
  refine lv_aload_n hx hb dX3_shift_20 rfl (lv_at hl 0 rfl) ?_
  refine va_get (D := (dC, dI)) (ci := 3) (v := .ref (a 1)) (C := RX3) (T := TX3) (N := 8) hx hb hts hinX3 hown hK hP 0 rfl rfl 0 (by decide) hf_7 (fun _ h9 => h9) rfl dX3_shift_21 ?_
  refine lv_iload_n hx hb dX3_shift_24 rfl (lv_at hl 2 rfl) ?_
  obtain ⟨hi, hF⟩ := ck_of hF
  refine va_iald hx hb hK hP 1 0 rfl rfl hi dX3_shift_25 ?_
  refine lv_imul hx hb dX3_shift_26 ?_
  refine lv_iadd hx hb dX3_shift_27 ?_
  refine lv_imul hx hb dX3_shift_28 ?_
  refine lv_iadd hx hb dX3_shift_29 ?_
  obtain ⟨hi, hF⟩ := ck_of hF
  obtain ⟨r_six_2, e_r_six_2, hF⟩ := nm_ex hF
  refine kc_iast (j := p0.toNatClampNeg) (g := r_six_2) hx hb hK hP hD hS 1 0 rfl rfl rfl hi dX3_shift_30 e_r_six_2 (fun H locs hP hD hS => ?_)
  have hP : va_P (dC, dI) vwCl (rW cI h a r_ties r_six_2 r_rows r_box r_worth r_image r_best r_bestRows) H := hP
  have hD : va_D A (rW cI h a r_ties r_six_2 r_rows r_box r_worth r_image r_best r_bestRows) := hD
  refine lv_aload_n hx hb dX3_shift_31 rfl (lv_at hl 0 rfl) ?_
  refine va_get (D := (dC, dI)) (ci := 3) (v := .ref (a 1)) (C := RX3) (T := TX3) (N := 8) hx hb hts hinX3 hown hK hP 0 rfl rfl 0 (by decide) hf_7 (fun _ h9 => h9) rfl dX3_shift_32 ?_
  refine lv_bipush (v := (6)) hx hb dX3_shift_35 (by decide) ?_
  refine lv_iload_n hx hb dX3_shift_37 rfl (lv_at hl 1 rfl) ?_
  refine lv_isub hx hb dX3_shift_38 ?_
  refine lv_iload_n hx hb dX3_shift_39 rfl (lv_at hl 2 rfl) ?_
  refine lv_isub hx hb dX3_shift_40 ?_
  refine lv_dup2_11 hx hb dX3_shift_41 rfl rfl ?_
  refine lv_topi (fun v_3 e_v_3 => ?_)
  have hF := nm_at hF e_v_3
  obtain ⟨hi, hF⟩ := ck_of hF
  refine va_iald hx hb hK hP 1 0 rfl rfl hi dX3_shift_42 ?_
  refine lv_iconst (v := 2) hx hb dX3_shift_43 (by decide) ?_
  refine lv_iload_n hx hb dX3_shift_44 rfl (lv_at hl 3 rfl) ?_
  refine lv_imul hx hb dX3_shift_45 ?_
  refine lv_aload_n hx hb dX3_shift_46 rfl (lv_at hl 0 rfl) ?_
  refine va_get (D := (dC, dI)) (ci := 3) (v := .ref (a 1)) (C := RX3) (T := TX3) (N := 8) hx hb hts hinX3 hown hK hP 0 rfl rfl 0 (by decide) hf_7 (fun _ h9 => h9) rfl dX3_shift_47 ?_
  refine lv_iload_n hx hb dX3_shift_50 rfl (lv_at hl 2 rfl) ?_
  obtain ⟨hi, hF⟩ := ck_of hF
  refine va_iald hx hb hK hP 1 0 rfl rfl hi dX3_shift_51 ?_
  refine lv_imul hx hb dX3_shift_52 ?_
  refine lv_iadd hx hb dX3_shift_53 ?_
  obtain ⟨v_4, e_v_4, hF⟩ := nm_ex hF
  rw [← e_v_4]
  obtain ⟨hi, hF⟩ := ck_of hF
  obtain ⟨r_six_5, e_r_six_5, hF⟩ := nm_ex hF
  refine kc_iast (j := v_4.toNatClampNeg) (g := r_six_5) hx hb hK hP hD hS 1 0 rfl rfl rfl hi dX3_shift_54 e_r_six_5 (fun H locs hP hD hS => ?_)
  have hP : va_P (dC, dI) vwCl (rW cI h a r_ties r_six_5 r_rows r_box r_worth r_image r_best r_bestRows) H := hP
  have hD : va_D A (rW cI h a r_ties r_six_5 r_rows r_box r_worth r_image r_best r_bestRows) := hD
  refine lv_aload_n hx hb dX3_shift_55 rfl (lv_at hl 0 rfl) ?_
  refine va_get (D := (dC, dI)) (ci := 3) (v := .ref (a 1)) (C := RX3) (T := TX3) (N := 8) hx hb hts hinX3 hown hK hP 0 rfl rfl 0 (by decide) hf_7 (fun _ h9 => h9) rfl dX3_shift_56 ?_
  refine lv_iconst (v := 3) hx hb dX3_shift_59 (by decide) ?_
  refine lv_iload_n hx hb dX3_shift_60 rfl (lv_at hl 2 rfl) ?_
  refine lv_iadd hx hb dX3_shift_61 ?_
  refine lv_dup2_11 hx hb dX3_shift_62 rfl rfl ?_
  refine lv_topi (fun v_6 e_v_6 => ?_)
  have hF := nm_at hF e_v_6
  obtain ⟨hi, hF⟩ := ck_of hF
  refine va_iald hx hb hK hP 1 0 rfl rfl hi dX3_shift_63 ?_
  refine lv_iload_n hx hb dX3_shift_64 rfl (lv_at hl 3 rfl) ?_
  refine lv_aload_n hx hb dX3_shift_65 rfl (lv_at hl 0 rfl) ?_
  refine va_get (D := (dC, dI)) (ci := 3) (v := .ref (a 1)) (C := RX3) (T := TX3) (N := 8) hx hb hts hinX3 hown hK hP 0 rfl rfl 0 (by decide) hf_7 (fun _ h9 => h9) rfl dX3_shift_66 ?_
  refine lv_iconst (v := 3) hx hb dX3_shift_69 (by decide) ?_
  refine lv_iload_n hx hb dX3_shift_70 rfl (lv_at hl 1 rfl) ?_
  refine lv_iadd hx hb dX3_shift_71 ?_
  refine lv_topi (fun v_7 e_v_7 => ?_)
  have hF := nm_at hF e_v_7
  obtain ⟨hi, hF⟩ := ck_of hF
  refine va_iald hx hb hK hP 1 0 rfl rfl hi dX3_shift_72 ?_
  refine lv_imul hx hb dX3_shift_73 ?_
  refine lv_iadd hx hb dX3_shift_74 ?_
  obtain ⟨v_8, e_v_8, hF⟩ := nm_ex hF
  rw [← e_v_8]
  obtain ⟨hi, hF⟩ := ck_of hF
  obtain ⟨r_six_9, e_r_six_9, hF⟩ := nm_ex hF
  refine kc_iast (j := v_8.toNatClampNeg) (g := r_six_9) hx hb hK hP hD hS 1 0 rfl rfl rfl hi dX3_shift_75 e_r_six_9 (fun H locs hP hD hS => ?_)
  have hP : va_P (dC, dI) vwCl (rW cI h a r_ties r_six_9 r_rows r_box r_worth r_image r_best r_bestRows) H := hP
  have hD : va_D A (rW cI h a r_ties r_six_9 r_rows r_box r_worth r_image r_best r_bestRows) := hD
  refine lv_iconst (v := 0) hx hb dX3_shift_76 (by decide) ?_
  refine lv_istore (lv' := [(4, .int (0 : Int32)), (0, .ref h), (1, .int p0), (2, .int p1), (3, .int p2)]) hx hb dX3_shift_77 hl (by decide) rfl (fun ls hl => ?_)
  have hL79 : ∀ n : Nat, ∀ (x4_10 : Int32) (r_rows_11 : Nat → Int32) (H : Heap) (locs : List Loc) (ls : Array Slot), va_P (dC, dI) vwCl (rW cI h a r_ties r_six_9 r_rows_11 r_box r_worth r_image r_best r_bestRows) H → va_D A (rW cI h a r_ties r_six_9 r_rows_11 r_box r_worth r_image r_best r_bestRows) → va_S A s.heap H locs → lv_has ls 5 [(0, .ref h), (1, .int p0), (2, .int p1), (3, .int p2), (4, .int x4_10)] → fX3_shift_L79 r_six_9 p0 p1 p2 n x4_10 r_rows_11 = some (o_r_six, o_r_rows) → W p l e rmX3_shift s m ([.ref h, .int p0, .int p1, .int p2] : List Value).toArray below meth c H locs 0 0 Q (F0 m 79 ls []) := by
    intro n
    induction n with
    | zero => intro x4_10 r_rows_11 H locs ls hP hD hS hl hF; rw [fX3_shift_L79] at hF; cases hF
    | succ n ih79 =>
      intro x4_10 r_rows_11 H locs ls hP hD hS hl hF
      rw [fX3_shift_L79] at hF
      refine lv_iload hx hb dX3_shift_79 (lv_at hl 4 rfl) ?_
      refine lv_iconst (v := 3) hx hb dX3_shift_81 (by decide) ?_
      refine lv_icmp_ge (tgt := 118) hx hb dX3_shift_82 (by decide) (fun c0 => ?_) (fun c0 => ?_)
      · have hF := if_t hF c0
        obtain ⟨q0, q1⟩ := sm2 hF
        have hP : va_P (dC, dI) vwCl (rW cI h a r_ties o_r_six o_r_rows r_box r_worth r_image r_best r_bestRows) H := by rw [← q0, ← q1]; exact hP
        have hD : va_D A (rW cI h a r_ties o_r_six o_r_rows r_box r_worth r_image r_best r_bestRows) := by rw [← q0, ← q1]; exact hD
        refine W_Qe hQ ?_
        exact W.vret hx hb hr (fun t ht hW => ⟨⟨(), rfl, trivial, by rw [ht]; exact hP, va_K.moved hW.alike hK, hD⟩, hS.F ht⟩) hS.2.2 dX3_shift_118
      · have hF := if_f hF c0
        refine lv_aload_n hx hb dX3_shift_85 rfl (lv_at hl 0 rfl) ?_
        refine va_get (D := (dC, dI)) (ci := 3) (v := .ref (a 2)) (C := RX3) (T := TX3) (N := 8) hx hb hts hinX3 hown hK hP 0 rfl rfl 1 (by decide) hf_13 (fun _ h9 => h9) rfl dX3_shift_86 ?_
        refine lv_iconst (v := 3) hx hb dX3_shift_89 (by decide) ?_
        refine lv_iload_n hx hb dX3_shift_90 rfl (lv_at hl 1 rfl) ?_
        refine lv_imul hx hb dX3_shift_91 ?_
        refine lv_iload hx hb dX3_shift_92 (lv_at hl 4 rfl) ?_
        refine lv_iadd hx hb dX3_shift_94 ?_
        refine lv_dup2_11 hx hb dX3_shift_95 rfl rfl ?_
        refine lv_topi (fun v_12 e_v_12 => ?_)
        have hF := nm_at hF e_v_12
        obtain ⟨hi, hF⟩ := ck_of hF
        refine va_iald hx hb hK hP 2 0 rfl rfl hi dX3_shift_96 ?_
        refine lv_iload_n hx hb dX3_shift_97 rfl (lv_at hl 3 rfl) ?_
        refine lv_aload_n hx hb dX3_shift_98 rfl (lv_at hl 0 rfl) ?_
        refine va_get (D := (dC, dI)) (ci := 3) (v := .ref (a 2)) (C := RX3) (T := TX3) (N := 8) hx hb hts hinX3 hown hK hP 0 rfl rfl 1 (by decide) hf_13 (fun _ h9 => h9) rfl dX3_shift_99 ?_
        refine lv_iconst (v := 3) hx hb dX3_shift_102 (by decide) ?_
        refine lv_iload_n hx hb dX3_shift_103 rfl (lv_at hl 2 rfl) ?_
        refine lv_imul hx hb dX3_shift_104 ?_
        refine lv_iload hx hb dX3_shift_105 (lv_at hl 4 rfl) ?_
        refine lv_iadd hx hb dX3_shift_107 ?_
        refine lv_topi (fun v_13 e_v_13 => ?_)
        have hF := nm_at hF e_v_13
        obtain ⟨hi, hF⟩ := ck_of hF
        refine va_iald hx hb hK hP 2 0 rfl rfl hi dX3_shift_108 ?_
        refine lv_imul hx hb dX3_shift_109 ?_
        refine lv_iadd hx hb dX3_shift_110 ?_
        obtain ⟨v_14, e_v_14, hF⟩ := nm_ex hF
        rw [← e_v_14]
        obtain ⟨hi, hF⟩ := ck_of hF
        obtain ⟨r_rows_15, e_r_rows_15, hF⟩ := nm_ex hF
        refine kc_iast (j := v_14.toNatClampNeg) (g := r_rows_15) hx hb hK hP hD hS 2 0 rfl rfl rfl hi dX3_shift_111 e_r_rows_15 (fun H locs hP hD hS => ?_)
        have hP : va_P (dC, dI) vwCl (rW cI h a r_ties r_six_9 r_rows_15 r_box r_worth r_image r_best r_bestRows) H := hP
        have hD : va_D A (rW cI h a r_ties r_six_9 r_rows_15 r_box r_worth r_image r_best r_bestRows) := hD
        obtain ⟨x4_16, e_x4_16, hF⟩ := nm_ex hF
        refine lv_iinc (v := x4_16) (lv' := [(4, .int x4_16), (0, .ref h), (1, .int p0), (2, .int p1), (3, .int p2)]) hx hb dX3_shift_112 hl (k := 4) rfl (by rw [e_x4_16]; rfl) (by decide) rfl (fun ls hl => ?_)
        refine lv_goto (tgt := 79) hx hb dX3_shift_115 (by decide) ?_
        exact ih79 x4_16 r_rows_15 H locs ls hP hD hS (lv_sub hl [1, 2, 3, 4, 0] rfl) hF
  exact hL79 fu (0 : Int32) r_rows H locs ls hP hD hS (lv_sub hl [1, 2, 3, 4, 0] rfl) hF
def fX3_shortenByOne_L9 (k94 : Option (Int32 × (Nat → Int32) × (Nat → Int32))) (x1_1 : Int32) (r_six : Nat → Int32) (k78 : (Int32) → (Int32) → (Int32) → Option (Int32 × (Nat → Int32) × (Nat → Int32))) : Nat → (Int32) → Option (Int32 × (Nat → Int32) × (Nat → Int32))
  | 0, _ => none
  | n + 1, x2_2 => if (3 : Int32) ≤ x2_2 then ((k94)) else (nm (nm (x2_2 + (1 : Int32)) (fun (x2_6 : Int32) => (fX3_shortenByOne_L9 k94 x1_1 r_six k78 n x2_6))) (fun (k88 : Option (Int32 × (Nat → Int32) × (Nat → Int32))) => if x1_1 = x2_2 then ((k88)) else (if okI x2_2 6 then if (r_six x2_2.toNatClampNeg) ≤ 0 then ((k88)) else (nm (((6 : Int32) - x1_1) - x2_2) (fun (v_3 : Int32) => if okI v_3 6 then nm (r_six v_3.toNatClampNeg) (fun (x3_4 : Int32) => if okI x2_2 6 then if okI x2_2 6 then bd1 (fJ9_floorDiv_7cf53 ((r_six x2_2.toNatClampNeg) - x3_4) ((2 : Int32) * (r_six x2_2.toNatClampNeg))) (fun (r_5 : Int32) => if okI x2_2 6 then if 0 ≤ (r_5 * (x3_4 + (r_5 * (r_six x2_2.toNatClampNeg)))) then ((k88)) else ((k78 x1_1 x2_2 r_5)) else none) else none else none) else none)) else none)))
def fX3_shortenByOne_L2 (r_six : Nat → Int32) (r_rows : Nat → Int32) (k78 : (Int32) → (Int32) → (Int32) → Option (Int32 × (Nat → Int32) × (Nat → Int32))) (fu : Nat) : Nat → (Int32) → Option (Int32 × (Nat → Int32) × (Nat → Int32))
  | 0, _ => none
  | n + 1, x1_1 => if (3 : Int32) ≤ x1_1 then (some ((0 : Int32), r_six, r_rows)) else (nm (nm (x1_1 + (1 : Int32)) (fun (x1_7 : Int32) => (fX3_shortenByOne_L2 r_six r_rows k78 fu n x1_7))) (fun (k94 : Option (Int32 × (Nat → Int32) × (Nat → Int32))) => (fX3_shortenByOne_L9 k94 x1_1 r_six k78 fu (0 : Int32))))
def fX3_shortenByOne (fu : Nat) (r_six : Nat → Int32) (r_rows : Nat → Int32)  : Option (Int32 × (Nat → Int32) × (Nat → Int32)) :=
  nm (fun (x1_8 : Int32) (x2_9 : Int32) (x4_10 : Int32) => bd2 (fX3_shift fu r_six r_rows x1_8 x2_9 x4_10) (fun (r_six_11 : Nat → Int32) (r_rows_12 : Nat → Int32) => some ((1 : Int32), r_six_11, r_rows_12))) (fun (k78 : (Int32) → (Int32) → (Int32) → Option (Int32 × (Nat → Int32) × (Nat → Int32))) => (fX3_shortenByOne_L2 r_six r_rows k78 fu fu (0 : Int32)))
def lkX3_shortenByOne : List Cond := [.fieldLink RX3 7 "KinForms$Reducer" "six" "[I"]
def vX3_shortenByOne : List Cond := .code yX3_shortenByOne cX3_shortenByOne 5 (some .boolean) :: (lkX3_shortenByOne ++ (wsX30 ++ (va_wsS RX3 51 yJ9_floorDiv_7cf53 vJ9_floorDiv_7cf53 ++ (wsV RX3 57 RX3 yX3_shift vX3_shift ++ ([])))))
theorem q_X3_shortenByOne : ∀ w ∈ vX3_shortenByOne, goodWord w = true := gd_cons rfl (gd_app (by decide +kernel) (gd_app q_wsX30 (gd_app (gd_S q_J9_floorDiv_7cf53) (gd_app (gd_V q_X3_shift) gd_nil))))
theorem g_X3_shortenByOne_J9_floorDiv_7cf53 : GoodIn vX3_shortenByOne (va_wsS RX3 51 yJ9_floorDiv_7cf53 vJ9_floorDiv_7cf53) := gi_of (fun w h => List.mem_cons_of_mem _ (List.mem_append_right _ (List.mem_append_right _ (List.mem_append_left _ h)))) (gd_S q_J9_floorDiv_7cf53)
theorem g_X3_shortenByOne_X3_shift : GoodIn vX3_shortenByOne (wsV RX3 57 RX3 yX3_shift vX3_shift) := gi_of (fun w h => List.mem_cons_of_mem _ (List.mem_append_right _ (List.mem_append_right _ (List.mem_append_right _ (List.mem_append_left _ h))))) (gd_V q_X3_shift)
abbrev rmX3_shortenByOne : Room := { frames := 1, cells := 0, slots := 0, locals := 24 }
set_option maxHeartbeats 4000000 in
set_option maxRecDepth 100000 in
theorem c_X3_shortenByOne (l : Launch) (dC : Nat → ClassId) (dI : Nat → Nat → Nat) (cI : ClassId) (h : Nat) (a : Nat → Nat) (fu : Nat) (sz : Nat) (r_ties : Int32) (r_six : Nat → Int32) (r_rows : Nat → Int32) (r_box : Nat → Int32) (r_worth : Nat → Int32) (r_image : Nat → Int32) (r_best : Nat → Int32) (r_bestRows : Nat → Int32)  (ro : Int32) (o_r_six : Nat → Int32) (o_r_rows : Nat → Int32) (hF : fX3_shortenByOne fu r_six r_rows = some (ro, o_r_six, o_r_rows)) : Met l yX3_shortenByOne vX3_shortenByOne rmX3_shortenByOne (va_Pc [.ref h] (mPk (dC, dI) vwCl (rW cI h a r_ties r_six r_rows r_box r_worth r_image r_best r_bestRows) [(cI, .int)] sz)) (va_Qi (fun x (_ : Unit) => x = ro) (mPo (dC, dI) vwCl (rW cI h a r_ties o_r_six o_r_rows r_box r_worth r_image r_best r_bestRows) [(cI, .int)] (va_A (rW cI h a r_ties r_six r_rows r_box r_worth r_image r_best r_bestRows) sz)) (va_A (rW cI h a r_ties r_six r_rows r_box r_worth r_image r_best r_bestRows) sz)) 0 0 (va_A (rW cI h a r_ties r_six r_rows r_box r_worth r_image r_best r_bestRows) sz) := by
  refine Met.ofW (cc := cX3_shortenByOne) (maxL := 5) (ret := (some .boolean)) (by decide) rfl ?_
  intro p e s m args below meth c s₁ B hml hv
  obtain ⟨rfl, hsz, hP, hK, hD0, hN⟩ := hv
  have hx := B.exec
  have hb := B.bytes
  have hr := B.returns
  have hts := atoms_spec (ws := vX3_shortenByOne) B.pre
  have hlk : ∀ w ∈ lkX3_shortenByOne, w.before _ s = true := fun w h => hts w (List.mem_cons_of_mem _ (List.mem_append_left _ h))
  have hown : s.vm.findClass RX3 = some m.cls := findClass_of_methodNamed B.named
  have hlocks := B.notSynchronized
  subst hsz
  have hD := hD0.self (sz := s.heap.size)
  generalize hAe : va_A (rW cI h a r_ties r_six r_rows r_box r_worth r_image r_best r_bestRows) s.heap.size = A at hD ⊢
  have hA : ∀ q : Nat, s.heap.size ≤ q → A q := fun q h => by rw [← hAe]; exact Or.inr h
  have hS : va_S A s.heap s.heap [] := va_S.rf
  have hinX3 : ∀ w ∈ wsX30, w ∈ vX3_shortenByOne := fun w h => List.mem_cons_of_mem _ (List.mem_append_right _ (List.mem_append_left _ h))
  have hf_7 := hlk (.fieldLink RX3 7 "KinForms$Reducer" "six" "[I") (by decide +kernel)
  have hl := lv_entry ([.ref h] : List Value) (n := 5) (Nat.le_of_ble_eq_true rfl)
  rw [lg_entry_eq]
  generalize (lg_sl ([.ref h] : List Value) ++ List.replicate (5 - (lg_sl ([.ref h] : List Value)).length) Slot.unset).toArray = ls at hl ⊢
  have hl : lv_has ls 5 [(0, .ref h)] := hl
  unfold fX3_shortenByOne at hF
  refine W_Q (fun Q hQ => ?_)
  have hP : va_P (dC, dI) vwCl (rW cI h a r_ties r_six r_rows r_box r_worth r_image r_best r_bestRows) s.heap := hP
  refine W_HL (fun H locs eH eL => ?_)
  rw [← eH] at hP
  have hS : va_S A s.heap H locs := by rw [eH, eL]; exact hS
  refine lv_iconst (v := 0) hx hb dX3_shortenByOne_0 (by decide) ?_
  refine lv_istore_n (lv' := [(1, .int (0 : Int32)), (0, .ref h)]) hx hb dX3_shortenByOne_1 rfl hl (by decide) rfl (fun ls hl => ?_)
  obtain ⟨k78, e_k78, hF⟩ := nm_ex hF
  have hk78 : ∀ (x1_8 : Int32) (x2_9 : Int32) (x4_10 : Int32) (H : Heap) (locs : List Loc) (ls : Array Slot), va_P (dC, dI) vwCl (rW cI h a r_ties r_six r_rows r_box r_worth r_image r_best r_bestRows) H → va_D A (rW cI h a r_ties r_six r_rows r_box r_worth r_image r_best r_bestRows) → va_S A s.heap H locs → lv_has ls 5 [(0, .ref h), (1, .int x1_8), (2, .int x2_9), (4, .int x4_10)] → k78 x1_8 x2_9 x4_10 = some (ro, o_r_six, o_r_rows) → W p l e rmX3_shortenByOne s m ([.ref h] : List Value).toArray below meth c H locs 0 0 Q (F0 m 78 ls []) := by
    intro x1_8 x2_9 x4_10 H locs ls hP hD hS hl hF
    have hF := ka3 e_k78 hF
    refine lv_aload_n hx hb dX3_shortenByOne_78 rfl (lv_at hl 0 rfl) ?_
    refine lv_iload_n hx hb dX3_shortenByOne_79 rfl (lv_at hl 1 rfl) ?_
    refine lv_iload_n hx hb dX3_shortenByOne_80 rfl (lv_at hl 2 rfl) ?_
    refine lv_iload hx hb dX3_shortenByOne_81 (lv_at hl 3 rfl) ?_
    obtain ⟨r_six_11, r_rows_12, hc, hF⟩ := bd2_of hF
    refine mc_v (va_runV (As := [.int x1_8, .int x2_9, .int x4_10]) (rest := []) ⟨hx, hb, hml, hown, hts⟩ (c_X3_shift l dC dI cI h a fu H.size r_ties r_six r_rows r_box r_worth r_image r_best r_bestRows x1_8 x2_9 x4_10 r_six_11 r_rows_12 hc) (cwV 3 hts g_X3_shortenByOne_X3_shift rfl rfl rfl (by decide +kernel) ⟨Nat.le_of_ble_eq_true rfl, Nat.le_of_ble_eq_true rfl⟩) ⟨mPk_blind, va_recv hK hP (ci := 3) (q0 := 0) rfl rfl, mPk_at hK hP hD hN⟩ rfl rfl hl.1 rfl (lv_room (Nat.le_of_ble_eq_true rfl)) dX3_shortenByOne_83 ⟨Nat.zero_le _, Nat.zero_le _⟩) hS (fr_all hD hS hA) (fun H locs hP hD hS => ?_)
    refine lv_iconst (v := 1) hx hb dX3_shortenByOne_86 (by decide) ?_
    obtain ⟨q0, q1, q2⟩ := sm3 hF
    have hP : va_P (dC, dI) vwCl (rW cI h a r_ties o_r_six o_r_rows r_box r_worth r_image r_best r_bestRows) H := by rw [← q1, ← q2]; exact hP
    have hD : va_D A (rW cI h a r_ties o_r_six o_r_rows r_box r_worth r_image r_best r_bestRows) := by rw [← q1, ← q2]; exact hD
    refine W_Qe hQ ?_
    exact W.zret (ty := .boolean) hx hb hr (nz_bool (by decide)) (fun t ht hW => ⟨⟨(1 : Int32), (), rfl, q0, by rw [ht]; exact hP, va_K.moved hW.alike hK, hD⟩, hS.F ht⟩) hS.2.2 dX3_shortenByOne_87
  clear e_k78
  have hL2 : ∀ n : Nat, ∀ (x1_1 : Int32) (H : Heap) (locs : List Loc) (ls : Array Slot), va_P (dC, dI) vwCl (rW cI h a r_ties r_six r_rows r_box r_worth r_image r_best r_bestRows) H → va_D A (rW cI h a r_ties r_six r_rows r_box r_worth r_image r_best r_bestRows) → va_S A s.heap H locs → lv_has ls 5 [(0, .ref h), (1, .int x1_1)] → fX3_shortenByOne_L2 r_six r_rows k78 fu n x1_1 = some (ro, o_r_six, o_r_rows) → W p l e rmX3_shortenByOne s m ([.ref h] : List Value).toArray below meth c H locs 0 0 Q (F0 m 2 ls []) := by
    intro n
    induction n with
    | zero => intro x1_1 H locs ls hP hD hS hl hF; rw [fX3_shortenByOne_L2] at hF; cases hF
    | succ n ih2 =>
      intro x1_1 H locs ls hP hD hS hl hF
      rw [fX3_shortenByOne_L2] at hF
      refine lv_iload_n hx hb dX3_shortenByOne_2 rfl (lv_at hl 1 rfl) ?_
      refine lv_iconst (v := 3) hx hb dX3_shortenByOne_3 (by decide) ?_
      refine lv_icmp_ge (tgt := 100) hx hb dX3_shortenByOne_4 (by decide) (fun c0 => ?_) (fun c0 => ?_)
      · have hF := if_t hF c0
        refine lv_iconst (v := 0) hx hb dX3_shortenByOne_100 (by decide) ?_
        obtain ⟨q0, q1, q2⟩ := sm3 hF
        have hP : va_P (dC, dI) vwCl (rW cI h a r_ties o_r_six o_r_rows r_box r_worth r_image r_best r_bestRows) H := by rw [← q1, ← q2]; exact hP
        have hD : va_D A (rW cI h a r_ties o_r_six o_r_rows r_box r_worth r_image r_best r_bestRows) := by rw [← q1, ← q2]; exact hD
        refine W_Qe hQ ?_
        exact W.zret (ty := .boolean) hx hb hr (nz_bool (by decide)) (fun t ht hW => ⟨⟨(0 : Int32), (), rfl, q0, by rw [ht]; exact hP, va_K.moved hW.alike hK, hD⟩, hS.F ht⟩) hS.2.2 dX3_shortenByOne_101
      · have hF := if_f hF c0
        refine lv_iconst (v := 0) hx hb dX3_shortenByOne_7 (by decide) ?_
        refine lv_istore_n (lv' := [(2, .int (0 : Int32)), (0, .ref h), (1, .int x1_1)]) hx hb dX3_shortenByOne_8 rfl hl (by decide) rfl (fun ls hl => ?_)
        obtain ⟨k94, e_k94, hF⟩ := nm_ex hF
        have hk94 : ∀  (H : Heap) (locs : List Loc) (ls : Array Slot), va_P (dC, dI) vwCl (rW cI h a r_ties r_six r_rows r_box r_worth r_image r_best r_bestRows) H → va_D A (rW cI h a r_ties r_six r_rows r_box r_worth r_image r_best r_bestRows) → va_S A s.heap H locs → lv_has ls 5 [(0, .ref h), (1, .int x1_1)] → k94 = some (ro, o_r_six, o_r_rows) → W p l e rmX3_shortenByOne s m ([.ref h] : List Value).toArray below meth c H locs 0 0 Q (F0 m 94 ls []) := by
          intro H locs ls hP hD hS hl hF
          have hF := ka0 e_k94 hF
          obtain ⟨x1_7, e_x1_7, hF⟩ := nm_ex hF
          refine lv_iinc (v := x1_7) (lv' := [(1, .int x1_7), (0, .ref h)]) hx hb dX3_shortenByOne_94 hl (k := 1) rfl (by rw [e_x1_7]; rfl) (by decide) rfl (fun ls hl => ?_)
          refine lv_goto (tgt := 2) hx hb dX3_shortenByOne_97 (by decide) ?_
          exact ih2 x1_7 H locs ls hP hD hS (lv_sub hl [1, 0] rfl) hF
        clear e_k94
        have hL9 : ∀ n : Nat, ∀ (x2_2 : Int32) (H : Heap) (locs : List Loc) (ls : Array Slot), va_P (dC, dI) vwCl (rW cI h a r_ties r_six r_rows r_box r_worth r_image r_best r_bestRows) H → va_D A (rW cI h a r_ties r_six r_rows r_box r_worth r_image r_best r_bestRows) → va_S A s.heap H locs → lv_has ls 5 [(0, .ref h), (1, .int x1_1), (2, .int x2_2)] → fX3_shortenByOne_L9 k94 x1_1 r_six k78 n x2_2 = some (ro, o_r_six, o_r_rows) → W p l e rmX3_shortenByOne s m ([.ref h] : List Value).toArray below meth c H locs 0 0 Q (F0 m 9 ls []) := by
          intro n
          induction n with
          | zero => intro x2_2 H locs ls hP hD hS hl hF; rw [fX3_shortenByOne_L9] at hF; cases hF
          | succ n ih9 =>
            intro x2_2 H locs ls hP hD hS hl hF
            rw [fX3_shortenByOne_L9] at hF
            refine lv_iload_n hx hb dX3_shortenByOne_9 rfl (lv_at hl 2 rfl) ?_
            refine lv_iconst (v := 3) hx hb dX3_shortenByOne_10 (by decide) ?_
            refine lv_icmp_ge (tgt := 94) hx hb dX3_shortenByOne_11 (by decide) (fun c0 => ?_) (fun c0 => ?_)
            · have hF := if_t hF c0
              exact hk94 H locs ls hP hD hS (lv_sub hl [0, 1] rfl) hF
            · have hF := if_f hF c0
              refine lv_iload_n hx hb dX3_shortenByOne_14 rfl (lv_at hl 1 rfl) ?_
              refine lv_iload_n hx hb dX3_shortenByOne_15 rfl (lv_at hl 2 rfl) ?_
              obtain ⟨k88, e_k88, hF⟩ := nm_ex hF
              have hk88 : ∀  (H : Heap) (locs : List Loc) (ls : Array Slot), va_P (dC, dI) vwCl (rW cI h a r_ties r_six r_rows r_box r_worth r_image r_best r_bestRows) H → va_D A (rW cI h a r_ties r_six r_rows r_box r_worth r_image r_best r_bestRows) → va_S A s.heap H locs → lv_has ls 5 [(0, .ref h), (1, .int x1_1), (2, .int x2_2)] → k88 = some (ro, o_r_six, o_r_rows) → W p l e rmX3_shortenByOne s m ([.ref h] : List Value).toArray below meth c H locs 0 0 Q (F0 m 88 ls []) := by
                intro H locs ls hP hD hS hl hF
                have hF := ka0 e_k88 hF
                obtain ⟨x2_6, e_x2_6, hF⟩ := nm_ex hF
                refine lv_iinc (v := x2_6) (lv' := [(2, .int x2_6), (0, .ref h), (1, .int x1_1)]) hx hb dX3_shortenByOne_88 hl (k := 2) rfl (by rw [e_x2_6]; rfl) (by decide) rfl (fun ls hl => ?_)
                refine lv_goto (tgt := 9) hx hb dX3_shortenByOne_91 (by decide) ?_
                exact ih9 x2_6 H locs ls hP hD hS (lv_sub hl [1, 2, 0] rfl) hF
              clear e_k88
              refine lv_icmp_eq (tgt := 88) hx hb dX3_shortenByOne_16 (by decide) (fun c0 => ?_) (fun c0 => ?_)
              · have hF := if_t hF c0
                exact hk88 H locs ls hP hD hS (lv_sub hl [0, 1, 2] rfl) hF
              · have hF := if_f hF c0
                refine lv_aload_n hx hb dX3_shortenByOne_19 rfl (lv_at hl 0 rfl) ?_
                refine va_get (D := (dC, dI)) (ci := 3) (v := .ref (a 1)) (C := RX3) (T := TX3) (N := 8) hx hb hts hinX3 hown hK hP 0 rfl rfl 0 (by decide) hf_7 (fun _ h9 => h9) rfl dX3_shortenByOne_20 ?_
                refine lv_iload_n hx hb dX3_shortenByOne_23 rfl (lv_at hl 2 rfl) ?_
                obtain ⟨hi, hF⟩ := ck_of hF
                refine va_iald hx hb hK hP 1 0 rfl rfl hi dX3_shortenByOne_24 ?_
                refine lv_if_le (tgt := 88) hx hb dX3_shortenByOne_25 (by decide) (fun c0 => ?_) (fun c0 => ?_)
                · have hF := if_t hF c0
                  exact hk88 H locs ls hP hD hS (lv_sub hl [0, 1, 2] rfl) hF
                · have hF := if_f hF c0
                  refine lv_aload_n hx hb dX3_shortenByOne_28 rfl (lv_at hl 0 rfl) ?_
                  refine va_get (D := (dC, dI)) (ci := 3) (v := .ref (a 1)) (C := RX3) (T := TX3) (N := 8) hx hb hts hinX3 hown hK hP 0 rfl rfl 0 (by decide) hf_7 (fun _ h9 => h9) rfl dX3_shortenByOne_29 ?_
                  refine lv_bipush (v := (6)) hx hb dX3_shortenByOne_32 (by decide) ?_
                  refine lv_iload_n hx hb dX3_shortenByOne_34 rfl (lv_at hl 1 rfl) ?_
                  refine lv_isub hx hb dX3_shortenByOne_35 ?_
                  refine lv_iload_n hx hb dX3_shortenByOne_36 rfl (lv_at hl 2 rfl) ?_
                  refine lv_isub hx hb dX3_shortenByOne_37 ?_
                  refine lv_topi (fun v_3 e_v_3 => ?_)
                  have hF := nm_at hF e_v_3
                  obtain ⟨hi, hF⟩ := ck_of hF
                  refine va_iald hx hb hK hP 1 0 rfl rfl hi dX3_shortenByOne_38 ?_
                  refine lv_topi (fun x3_4 e_x3_4 => ?_)
                  have hF := nm_at hF e_x3_4
                  refine lv_istore_n (lv' := [(3, .int x3_4), (0, .ref h), (1, .int x1_1), (2, .int x2_2)]) hx hb dX3_shortenByOne_39 rfl hl (by decide) rfl (fun ls hl => ?_)
                  refine lv_aload_n hx hb dX3_shortenByOne_40 rfl (lv_at hl 1 rfl) ?_
                  refine va_get (D := (dC, dI)) (ci := 3) (v := .ref (a 1)) (C := RX3) (T := TX3) (N := 8) hx hb hts hinX3 hown hK hP 0 rfl rfl 0 (by decide) hf_7 (fun _ h9 => h9) rfl dX3_shortenByOne_41 ?_
                  refine lv_iload_n hx hb dX3_shortenByOne_44 rfl (lv_at hl 3 rfl) ?_
                  obtain ⟨hi, hF⟩ := ck_of hF
                  refine va_iald hx hb hK hP 1 0 rfl rfl hi dX3_shortenByOne_45 ?_
                  refine lv_iload_n hx hb dX3_shortenByOne_46 rfl (lv_at hl 0 rfl) ?_
                  refine lv_isub hx hb dX3_shortenByOne_47 ?_
                  refine lv_iconst (v := 2) hx hb dX3_shortenByOne_48 (by decide) ?_
                  refine lv_aload_n hx hb dX3_shortenByOne_49 rfl (lv_at hl 1 rfl) ?_
                  refine va_get (D := (dC, dI)) (ci := 3) (v := .ref (a 1)) (C := RX3) (T := TX3) (N := 8) hx hb hts hinX3 hown hK hP 0 rfl rfl 0 (by decide) hf_7 (fun _ h9 => h9) rfl dX3_shortenByOne_50 ?_
                  refine lv_iload_n hx hb dX3_shortenByOne_53 rfl (lv_at hl 3 rfl) ?_
                  obtain ⟨hi, hF⟩ := ck_of hF
                  refine va_iald hx hb hK hP 1 0 rfl rfl hi dX3_shortenByOne_54 ?_
                  refine lv_imul hx hb dX3_shortenByOne_55 ?_
                  obtain ⟨r_5, hc, hF⟩ := bd1_of hF
                  refine rc_i (va_runS (As := [.int ((r_six x2_2.toNatClampNeg) - x3_4), .int ((2 : Int32) * (r_six x2_2.toNatClampNeg))]) (rest := []) ⟨hx, hb, hml, hown, hts⟩ (c_J9_floorDiv_7cf53 l ((r_six x2_2.toNatClampNeg) - x3_4) ((2 : Int32) * (r_six x2_2.toNatClampNeg)) r_5 hc) (va_cwS 2 hts g_X3_shortenByOne_J9_floorDiv_7cf53 rfl rfl rfl (by decide +kernel) ⟨Nat.le_of_ble_eq_true rfl, Nat.le_of_ble_eq_true rfl⟩) ⟨tPc_blind, tPc_at⟩ rfl rfl hl.1 rfl (lv_room (Nat.le_of_ble_eq_true rfl)) dX3_shortenByOne_56 ⟨Nat.zero_le _, Nat.zero_le _⟩) ?_
                  refine lv_istore (lv' := [(4, .int r_5), (3, .int x3_4), (0, .ref h), (1, .int x1_1), (2, .int x2_2)]) hx hb dX3_shortenByOne_59 hl (by decide) rfl (fun ls hl => ?_)
                  refine lv_iload hx hb dX3_shortenByOne_61 (lv_at hl 0 rfl) ?_
                  refine lv_iload_n hx hb dX3_shortenByOne_63 rfl (lv_at hl 1 rfl) ?_
                  refine lv_iload hx hb dX3_shortenByOne_64 (lv_at hl 0 rfl) ?_
                  refine lv_aload_n hx hb dX3_shortenByOne_66 rfl (lv_at hl 2 rfl) ?_
                  refine va_get (D := (dC, dI)) (ci := 3) (v := .ref (a 1)) (C := RX3) (T := TX3) (N := 8) hx hb hts hinX3 hown hK hP 0 rfl rfl 0 (by decide) hf_7 (fun _ h9 => h9) rfl dX3_shortenByOne_67 ?_
                  refine lv_iload_n hx hb dX3_shortenByOne_70 rfl (lv_at hl 4 rfl) ?_
                  obtain ⟨hi, hF⟩ := ck_of hF
                  refine va_iald hx hb hK hP 1 0 rfl rfl hi dX3_shortenByOne_71 ?_
                  refine lv_imul hx hb dX3_shortenByOne_72 ?_
                  refine lv_iadd hx hb dX3_shortenByOne_73 ?_
                  refine lv_imul hx hb dX3_shortenByOne_74 ?_
                  refine lv_if_ge (tgt := 88) hx hb dX3_shortenByOne_75 (by decide) (fun c0 => ?_) (fun c0 => ?_)
                  · have hF := if_t hF c0
                    exact hk88 H locs ls hP hD hS (lv_sub hl [2, 3, 4] rfl) hF
                  · have hF := if_f hF c0
                    exact hk78 x1_1 x2_2 r_5 H locs ls hP hD hS (lv_sub hl [2, 3, 4, 0] rfl) hF
        exact hL9 fu (0 : Int32) H locs ls hP hD hS (lv_sub hl [1, 2, 0] rfl) hF
  exact hL2 fu (0 : Int32) H locs ls hP hD hS (lv_sub hl [1, 0] rfl) hF
def fX3_shortenByTwo_L31 (k116 : Option (Int32 × (Nat → Int32) × (Nat → Int32))) (x2_3 : Int32) (x3_5 : Int32) (x1_1 : Int32) (r_six : Nat → Int32) (x4_6 : Int32) (k92 : (Int32) → (Int32) → (Int32) → (Int32) → (Int32) → Option (Int32 × (Nat → Int32) × (Nat → Int32))) : Nat → (Int32) → Option (Int32 × (Nat → Int32) × (Nat → Int32))
  | 0, _ => none
  | n + 1, x5_7 => if (1 : Int32) < x5_7 then ((k116)) else (if okI x2_3 6 then if okI x3_5 6 then nm ((3 : Int32) + x3_5) (fun (v_8 : Int32) => if okI v_8 6 then nm ((3 : Int32) + x2_3) (fun (v_9 : Int32) => if okI v_9 6 then nm ((3 : Int32) + x1_1) (fun (v_10 : Int32) => if okI v_10 6 then if 0 ≤ (((((r_six x2_3.toNatClampNeg) + (r_six x3_5.toNatClampNeg)) + (x4_6 * (r_six v_8.toNatClampNeg))) + (x5_7 * (r_six v_9.toNatClampNeg))) + ((x4_6 * x5_7) * (r_six v_10.toNatClampNeg))) then (nm (x5_7 + (2 : Int32)) (fun (x5_11 : Int32) => (fX3_shortenByTwo_L31 k116 x2_3 x3_5 x1_1 r_six x4_6 k92 n x5_11))) else ((k92 x1_1 x2_3 x3_5 x4_6 x5_7)) else none) else none) else none) else none else none)
def fX3_shortenByTwo_L22 (k122 : Option (Int32 × (Nat → Int32) × (Nat → Int32))) (x2_3 : Int32) (x3_5 : Int32) (x1_1 : Int32) (r_six : Nat → Int32) (k92 : (Int32) → (Int32) → (Int32) → (Int32) → (Int32) → Option (Int32 × (Nat → Int32) × (Nat → Int32))) (fu : Nat) : Nat → (Int32) → Option (Int32 × (Nat → Int32) × (Nat → Int32))
  | 0, _ => none
  | n + 1, x4_6 => if (1 : Int32) < x4_6 then ((k122)) else (nm (nm (x4_6 + (2 : Int32)) (fun (x4_12 : Int32) => (fX3_shortenByTwo_L22 k122 x2_3 x3_5 x1_1 r_six k92 fu n x4_12))) (fun (k116 : Option (Int32 × (Nat → Int32) × (Nat → Int32))) => (fX3_shortenByTwo_L31 k116 x2_3 x3_5 x1_1 r_six x4_6 k92 fu (-1 : Int32))))
def fX3_shortenByTwo_L2 (r_six : Nat → Int32) (r_rows : Nat → Int32) (k92 : (Int32) → (Int32) → (Int32) → (Int32) → (Int32) → Option (Int32 × (Nat → Int32) × (Nat → Int32))) (fu : Nat) : Nat → (Int32) → Option (Int32 × (Nat → Int32) × (Nat → Int32))
  | 0, _ => none
  | n + 1, x1_1 => if (3 : Int32) ≤ x1_1 then (some ((0 : Int32), r_six, r_rows)) else (nm (x1_1 + (1 : Int32)) (fun (v_2 : Int32) => nm (v_2 - v_2 / (3 : Int32) * (3 : Int32)) (fun (x2_3 : Int32) => nm (x1_1 + (2 : Int32)) (fun (v_4 : Int32) => nm (v_4 - v_4 / (3 : Int32) * (3 : Int32)) (fun (x3_5 : Int32) => nm (nm (x1_1 + (1 : Int32)) (fun (x1_13 : Int32) => (fX3_shortenByTwo_L2 r_six r_rows k92 fu n x1_13))) (fun (k122 : Option (Int32 × (Nat → Int32) × (Nat → Int32))) => (fX3_shortenByTwo_L22 k122 x2_3 x3_5 x1_1 r_six k92 fu fu (-1 : Int32))))))))
def fX3_shortenByTwo (fu : Nat) (r_six : Nat → Int32) (r_rows : Nat → Int32)  : Option (Int32 × (Nat → Int32) × (Nat → Int32)) :=
  nm (fun (x1_14 : Int32) (x2_15 : Int32) (x3_16 : Int32) (x4_17 : Int32) (x5_18 : Int32) => bd2 (fX3_shift fu r_six r_rows x1_14 x2_15 x4_17) (fun (r_six_19 : Nat → Int32) (r_rows_20 : Nat → Int32) => bd2 (fX3_shift fu r_six_19 r_rows_20 x1_14 x3_16 x5_18) (fun (r_six_21 : Nat → Int32) (r_rows_22 : Nat → Int32) => some ((1 : Int32), r_six_21, r_rows_22)))) (fun (k92 : (Int32) → (Int32) → (Int32) → (Int32) → (Int32) → Option (Int32 × (Nat → Int32) × (Nat → Int32))) => (fX3_shortenByTwo_L2 r_six r_rows k92 fu fu (0 : Int32)))
def lkX3_shortenByTwo : List Cond := [.fieldLink RX3 7 "KinForms$Reducer" "six" "[I"]
def vX3_shortenByTwo : List Cond := .code yX3_shortenByTwo cX3_shortenByTwo 6 (some .boolean) :: (lkX3_shortenByTwo ++ (wsX30 ++ (wsV RX3 57 RX3 yX3_shift vX3_shift ++ ([]))))
theorem q_X3_shortenByTwo : ∀ w ∈ vX3_shortenByTwo, goodWord w = true := gd_cons rfl (gd_app (by decide +kernel) (gd_app q_wsX30 (gd_app (gd_V q_X3_shift) gd_nil)))
theorem g_X3_shortenByTwo_X3_shift : GoodIn vX3_shortenByTwo (wsV RX3 57 RX3 yX3_shift vX3_shift) := gi_of (fun w h => List.mem_cons_of_mem _ (List.mem_append_right _ (List.mem_append_right _ (List.mem_append_left _ h)))) (gd_V q_X3_shift)
abbrev rmX3_shortenByTwo : Room := { frames := 1, cells := 0, slots := 0, locals := 24 }
set_option maxHeartbeats 4000000 in
set_option maxRecDepth 100000 in
theorem c_X3_shortenByTwo (l : Launch) (dC : Nat → ClassId) (dI : Nat → Nat → Nat) (cI : ClassId) (h : Nat) (a : Nat → Nat) (fu : Nat) (sz : Nat) (r_ties : Int32) (r_six : Nat → Int32) (r_rows : Nat → Int32) (r_box : Nat → Int32) (r_worth : Nat → Int32) (r_image : Nat → Int32) (r_best : Nat → Int32) (r_bestRows : Nat → Int32)  (ro : Int32) (o_r_six : Nat → Int32) (o_r_rows : Nat → Int32) (hF : fX3_shortenByTwo fu r_six r_rows = some (ro, o_r_six, o_r_rows)) : Met l yX3_shortenByTwo vX3_shortenByTwo rmX3_shortenByTwo (va_Pc [.ref h] (mPk (dC, dI) vwCl (rW cI h a r_ties r_six r_rows r_box r_worth r_image r_best r_bestRows) [(cI, .int)] sz)) (va_Qi (fun x (_ : Unit) => x = ro) (mPo (dC, dI) vwCl (rW cI h a r_ties o_r_six o_r_rows r_box r_worth r_image r_best r_bestRows) [(cI, .int)] (va_A (rW cI h a r_ties r_six r_rows r_box r_worth r_image r_best r_bestRows) sz)) (va_A (rW cI h a r_ties r_six r_rows r_box r_worth r_image r_best r_bestRows) sz)) 0 0 (va_A (rW cI h a r_ties r_six r_rows r_box r_worth r_image r_best r_bestRows) sz) := by
  refine Met.ofW (cc := cX3_shortenByTwo) (maxL := 6) (ret := (some .boolean)) (by decide) rfl ?_
  intro p e s m args below meth c s₁ B hml hv
  obtain ⟨rfl, hsz, hP, hK, hD0, hN⟩ := hv
  have hx := B.exec
  have hb := B.bytes
  have hr := B.returns
  have hts := atoms_spec (ws := vX3_shortenByTwo) B.pre
  have hlk : ∀ w ∈ lkX3_shortenByTwo, w.before _ s = true := fun w h => hts w (List.mem_cons_of_mem _ (List.mem_append_left _ h))
  have hown : s.vm.findClass RX3 = some m.cls := findClass_of_methodNamed B.named
  have hlocks := B.notSynchronized
  subst hsz
  have hD := hD0.self (sz := s.heap.size)
  generalize hAe : va_A (rW cI h a r_ties r_six r_rows r_box r_worth r_image r_best r_bestRows) s.heap.size = A at hD ⊢
  have hA : ∀ q : Nat, s.heap.size ≤ q → A q := fun q h => by rw [← hAe]; exact Or.inr h
  have hS : va_S A s.heap s.heap [] := va_S.rf
  have hinX3 : ∀ w ∈ wsX30, w ∈ vX3_shortenByTwo := fun w h => List.mem_cons_of_mem _ (List.mem_append_right _ (List.mem_append_left _ h))
  have hf_7 := hlk (.fieldLink RX3 7 "KinForms$Reducer" "six" "[I") (by decide +kernel)
  have hl := lv_entry ([.ref h] : List Value) (n := 6) (Nat.le_of_ble_eq_true rfl)
  rw [lg_entry_eq]
  generalize (lg_sl ([.ref h] : List Value) ++ List.replicate (6 - (lg_sl ([.ref h] : List Value)).length) Slot.unset).toArray = ls at hl ⊢
  have hl : lv_has ls 6 [(0, .ref h)] := hl
  unfold fX3_shortenByTwo at hF
  refine W_Q (fun Q hQ => ?_)
  have hP : va_P (dC, dI) vwCl (rW cI h a r_ties r_six r_rows r_box r_worth r_image r_best r_bestRows) s.heap := hP
  refine W_HL (fun H locs eH eL => ?_)
  rw [← eH] at hP
  have hS : va_S A s.heap H locs := by rw [eH, eL]; exact hS
  refine lv_iconst (v := 0) hx hb dX3_shortenByTwo_0 (by decide) ?_
  refine lv_istore_n (lv' := [(1, .int (0 : Int32)), (0, .ref h)]) hx hb dX3_shortenByTwo_1 rfl hl (by decide) rfl (fun ls hl => ?_)
  obtain ⟨k92, e_k92, hF⟩ := nm_ex hF
  have hk92 : ∀ (x1_14 : Int32) (x2_15 : Int32) (x3_16 : Int32) (x4_17 : Int32) (x5_18 : Int32) (H : Heap) (locs : List Loc) (ls : Array Slot), va_P (dC, dI) vwCl (rW cI h a r_ties r_six r_rows r_box r_worth r_image r_best r_bestRows) H → va_D A (rW cI h a r_ties r_six r_rows r_box r_worth r_image r_best r_bestRows) → va_S A s.heap H locs → lv_has ls 6 [(0, .ref h), (1, .int x1_14), (2, .int x2_15), (3, .int x3_16), (4, .int x4_17), (5, .int x5_18)] → k92 x1_14 x2_15 x3_16 x4_17 x5_18 = some (ro, o_r_six, o_r_rows) → W p l e rmX3_shortenByTwo s m ([.ref h] : List Value).toArray below meth c H locs 0 0 Q (F0 m 92 ls []) := by
    intro x1_14 x2_15 x3_16 x4_17 x5_18 H locs ls hP hD hS hl hF
    have hF := ka5 e_k92 hF
    refine lv_aload_n hx hb dX3_shortenByTwo_92 rfl (lv_at hl 0 rfl) ?_
    refine lv_iload_n hx hb dX3_shortenByTwo_93 rfl (lv_at hl 1 rfl) ?_
    refine lv_iload_n hx hb dX3_shortenByTwo_94 rfl (lv_at hl 2 rfl) ?_
    refine lv_iload hx hb dX3_shortenByTwo_95 (lv_at hl 4 rfl) ?_
    obtain ⟨r_six_19, r_rows_20, hc, hF⟩ := bd2_of hF
    refine mc_v (va_runV (As := [.int x1_14, .int x2_15, .int x4_17]) (rest := []) ⟨hx, hb, hml, hown, hts⟩ (c_X3_shift l dC dI cI h a fu H.size r_ties r_six r_rows r_box r_worth r_image r_best r_bestRows x1_14 x2_15 x4_17 r_six_19 r_rows_20 hc) (cwV 3 hts g_X3_shortenByTwo_X3_shift rfl rfl rfl (by decide +kernel) ⟨Nat.le_of_ble_eq_true rfl, Nat.le_of_ble_eq_true rfl⟩) ⟨mPk_blind, va_recv hK hP (ci := 3) (q0 := 0) rfl rfl, mPk_at hK hP hD hN⟩ rfl rfl hl.1 rfl (lv_room (Nat.le_of_ble_eq_true rfl)) dX3_shortenByTwo_97 ⟨Nat.zero_le _, Nat.zero_le _⟩) hS (fr_all hD hS hA) (fun H locs hP hD hS => ?_)
    refine lv_aload_n hx hb dX3_shortenByTwo_100 rfl (lv_at hl 0 rfl) ?_
    refine lv_iload_n hx hb dX3_shortenByTwo_101 rfl (lv_at hl 1 rfl) ?_
    refine lv_iload_n hx hb dX3_shortenByTwo_102 rfl (lv_at hl 3 rfl) ?_
    refine lv_iload hx hb dX3_shortenByTwo_103 (lv_at hl 5 rfl) ?_
    obtain ⟨r_six_21, r_rows_22, hc, hF⟩ := bd2_of hF
    refine mc_v (va_runV (As := [.int x1_14, .int x3_16, .int x5_18]) (rest := []) ⟨hx, hb, hml, hown, hts⟩ (c_X3_shift l dC dI cI h a fu H.size r_ties r_six_19 r_rows_20 r_box r_worth r_image r_best r_bestRows x1_14 x3_16 x5_18 r_six_21 r_rows_22 hc) (cwV 3 hts g_X3_shortenByTwo_X3_shift rfl rfl rfl (by decide +kernel) ⟨Nat.le_of_ble_eq_true rfl, Nat.le_of_ble_eq_true rfl⟩) ⟨mPk_blind, va_recv hK hP (ci := 3) (q0 := 0) rfl rfl, mPk_at hK hP hD hN⟩ rfl rfl hl.1 rfl (lv_room (Nat.le_of_ble_eq_true rfl)) dX3_shortenByTwo_105 ⟨Nat.zero_le _, Nat.zero_le _⟩) hS (fr_all hD hS hA) (fun H locs hP hD hS => ?_)
    refine lv_iconst (v := 1) hx hb dX3_shortenByTwo_108 (by decide) ?_
    obtain ⟨q0, q1, q2⟩ := sm3 hF
    have hP : va_P (dC, dI) vwCl (rW cI h a r_ties o_r_six o_r_rows r_box r_worth r_image r_best r_bestRows) H := by rw [← q1, ← q2]; exact hP
    have hD : va_D A (rW cI h a r_ties o_r_six o_r_rows r_box r_worth r_image r_best r_bestRows) := by rw [← q1, ← q2]; exact hD
    refine W_Qe hQ ?_
    exact W.zret (ty := .boolean) hx hb hr (nz_bool (by decide)) (fun t ht hW => ⟨⟨(1 : Int32), (), rfl, q0, by rw [ht]; exact hP, va_K.moved hW.alike hK, hD⟩, hS.F ht⟩) hS.2.2 dX3_shortenByTwo_109
  clear e_k92
  have hL2 : ∀ n : Nat, ∀ (x1_1 : Int32) (H : Heap) (locs : List Loc) (ls : Array Slot), va_P (dC, dI) vwCl (rW cI h a r_ties r_six r_rows r_box r_worth r_image r_best r_bestRows) H → va_D A (rW cI h a r_ties r_six r_rows r_box r_worth r_image r_best r_bestRows) → va_S A s.heap H locs → lv_has ls 6 [(0, .ref h), (1, .int x1_1)] → fX3_shortenByTwo_L2 r_six r_rows k92 fu n x1_1 = some (ro, o_r_six, o_r_rows) → W p l e rmX3_shortenByTwo s m ([.ref h] : List Value).toArray below meth c H locs 0 0 Q (F0 m 2 ls []) := by
    intro n
    induction n with
    | zero => intro x1_1 H locs ls hP hD hS hl hF; rw [fX3_shortenByTwo_L2] at hF; cases hF
    | succ n ih2 =>
      intro x1_1 H locs ls hP hD hS hl hF
      rw [fX3_shortenByTwo_L2] at hF
      refine lv_iload_n hx hb dX3_shortenByTwo_2 rfl (lv_at hl 1 rfl) ?_
      refine lv_iconst (v := 3) hx hb dX3_shortenByTwo_3 (by decide) ?_
      refine lv_icmp_ge (tgt := 128) hx hb dX3_shortenByTwo_4 (by decide) (fun c0 => ?_) (fun c0 => ?_)
      · have hF := if_t hF c0
        refine lv_iconst (v := 0) hx hb dX3_shortenByTwo_128 (by decide) ?_
        obtain ⟨q0, q1, q2⟩ := sm3 hF
        have hP : va_P (dC, dI) vwCl (rW cI h a r_ties o_r_six o_r_rows r_box r_worth r_image r_best r_bestRows) H := by rw [← q1, ← q2]; exact hP
        have hD : va_D A (rW cI h a r_ties o_r_six o_r_rows r_box r_worth r_image r_best r_bestRows) := by rw [← q1, ← q2]; exact hD
        refine W_Qe hQ ?_
        exact W.zret (ty := .boolean) hx hb hr (nz_bool (by decide)) (fun t ht hW => ⟨⟨(0 : Int32), (), rfl, q0, by rw [ht]; exact hP, va_K.moved hW.alike hK, hD⟩, hS.F ht⟩) hS.2.2 dX3_shortenByTwo_129
      · have hF := if_f hF c0
        refine lv_iload_n hx hb dX3_shortenByTwo_7 rfl (lv_at hl 1 rfl) ?_
        refine lv_iconst (v := 1) hx hb dX3_shortenByTwo_8 (by decide) ?_
        refine lv_iadd hx hb dX3_shortenByTwo_9 ?_
        refine lv_iconst (v := 3) hx hb dX3_shortenByTwo_10 (by decide) ?_
        obtain ⟨v_2, e_v_2, hF⟩ := nm_ex hF
        rw [← e_v_2]
        refine lv_irem hx hb dX3_shortenByTwo_11 (by decide) ?_
        refine lv_topi (fun x2_3 e_x2_3 => ?_)
        have hF := nm_at hF e_x2_3
        refine lv_istore_n (lv' := [(2, .int x2_3), (0, .ref h), (1, .int x1_1)]) hx hb dX3_shortenByTwo_12 rfl hl (by decide) rfl (fun ls hl => ?_)
        refine lv_iload_n hx hb dX3_shortenByTwo_13 rfl (lv_at hl 2 rfl) ?_
        refine lv_iconst (v := 2) hx hb dX3_shortenByTwo_14 (by decide) ?_
        refine lv_iadd hx hb dX3_shortenByTwo_15 ?_
        refine lv_iconst (v := 3) hx hb dX3_shortenByTwo_16 (by decide) ?_
        obtain ⟨v_4, e_v_4, hF⟩ := nm_ex hF
        rw [← e_v_4]
        refine lv_irem hx hb dX3_shortenByTwo_17 (by decide) ?_
        refine lv_topi (fun x3_5 e_x3_5 => ?_)
        have hF := nm_at hF e_x3_5
        refine lv_istore_n (lv' := [(3, .int x3_5), (2, .int x2_3), (0, .ref h), (1, .int x1_1)]) hx hb dX3_shortenByTwo_18 rfl hl (by decide) rfl (fun ls hl => ?_)
        refine lv_iconst (v := (-1)) hx hb dX3_shortenByTwo_19 (by decide) ?_
        refine lv_istore (lv' := [(4, .int (-1 : Int32)), (3, .int x3_5), (2, .int x2_3), (0, .ref h), (1, .int x1_1)]) hx hb dX3_shortenByTwo_20 hl (by decide) rfl (fun ls hl => ?_)
        obtain ⟨k122, e_k122, hF⟩ := nm_ex hF
        have hk122 : ∀  (H : Heap) (locs : List Loc) (ls : Array Slot), va_P (dC, dI) vwCl (rW cI h a r_ties r_six r_rows r_box r_worth r_image r_best r_bestRows) H → va_D A (rW cI h a r_ties r_six r_rows r_box r_worth r_image r_best r_bestRows) → va_S A s.heap H locs → lv_has ls 6 [(0, .ref h), (1, .int x1_1)] → k122 = some (ro, o_r_six, o_r_rows) → W p l e rmX3_shortenByTwo s m ([.ref h] : List Value).toArray below meth c H locs 0 0 Q (F0 m 122 ls []) := by
          intro H locs ls hP hD hS hl hF
          have hF := ka0 e_k122 hF
          obtain ⟨x1_13, e_x1_13, hF⟩ := nm_ex hF
          refine lv_iinc (v := x1_13) (lv' := [(1, .int x1_13), (0, .ref h)]) hx hb dX3_shortenByTwo_122 hl (k := 1) rfl (by rw [e_x1_13]; rfl) (by decide) rfl (fun ls hl => ?_)
          refine lv_goto (tgt := 2) hx hb dX3_shortenByTwo_125 (by decide) ?_
          exact ih2 x1_13 H locs ls hP hD hS (lv_sub hl [1, 0] rfl) hF
        clear e_k122
        have hL22 : ∀ n : Nat, ∀ (x4_6 : Int32) (H : Heap) (locs : List Loc) (ls : Array Slot), va_P (dC, dI) vwCl (rW cI h a r_ties r_six r_rows r_box r_worth r_image r_best r_bestRows) H → va_D A (rW cI h a r_ties r_six r_rows r_box r_worth r_image r_best r_bestRows) → va_S A s.heap H locs → lv_has ls 6 [(0, .ref h), (1, .int x1_1), (2, .int x2_3), (3, .int x3_5), (4, .int x4_6)] → fX3_shortenByTwo_L22 k122 x2_3 x3_5 x1_1 r_six k92 fu n x4_6 = some (ro, o_r_six, o_r_rows) → W p l e rmX3_shortenByTwo s m ([.ref h] : List Value).toArray below meth c H locs 0 0 Q (F0 m 22 ls []) := by
          intro n
          induction n with
          | zero => intro x4_6 H locs ls hP hD hS hl hF; rw [fX3_shortenByTwo_L22] at hF; cases hF
          | succ n ih22 =>
            intro x4_6 H locs ls hP hD hS hl hF
            rw [fX3_shortenByTwo_L22] at hF
            refine lv_iload hx hb dX3_shortenByTwo_22 (lv_at hl 4 rfl) ?_
            refine lv_iconst (v := 1) hx hb dX3_shortenByTwo_24 (by decide) ?_
            refine lv_icmp_gt (tgt := 122) hx hb dX3_shortenByTwo_25 (by decide) (fun c0 => ?_) (fun c0 => ?_)
            · have hF := if_t hF c0
              exact hk122 H locs ls hP hD hS (lv_sub hl [0, 1] rfl) hF
            · have hF := if_f hF c0
              refine lv_iconst (v := (-1)) hx hb dX3_shortenByTwo_28 (by decide) ?_
              refine lv_istore (lv' := [(5, .int (-1 : Int32)), (0, .ref h), (1, .int x1_1), (2, .int x2_3), (3, .int x3_5), (4, .int x4_6)]) hx hb dX3_shortenByTwo_29 hl (by decide) rfl (fun ls hl => ?_)
              obtain ⟨k116, e_k116, hF⟩ := nm_ex hF
              have hk116 : ∀  (H : Heap) (locs : List Loc) (ls : Array Slot), va_P (dC, dI) vwCl (rW cI h a r_ties r_six r_rows r_box r_worth r_image r_best r_bestRows) H → va_D A (rW cI h a r_ties r_six r_rows r_box r_worth r_image r_best r_bestRows) → va_S A s.heap H locs → lv_has ls 6 [(0, .ref h), (1, .int x1_1), (2, .int x2_3), (3, .int x3_5), (4, .int x4_6)] → k116 = some (ro, o_r_six, o_r_rows) → W p l e rmX3_shortenByTwo s m ([.ref h] : List Value).toArray below meth c H locs 0 0 Q (F0 m 116 ls []) := by
                intro H locs ls hP hD hS hl hF
                have hF := ka0 e_k116 hF
                obtain ⟨x4_12, e_x4_12, hF⟩ := nm_ex hF
                refine lv_iinc (v := x4_12) (lv' := [(4, .int x4_12), (0, .ref h), (1, .int x1_1), (2, .int x2_3), (3, .int x3_5)]) hx hb dX3_shortenByTwo_116 hl (k := 4) rfl (by rw [e_x4_12]; rfl) (by decide) rfl (fun ls hl => ?_)
                refine lv_goto (tgt := 22) hx hb dX3_shortenByTwo_119 (by decide) ?_
                exact ih22 x4_12 H locs ls hP hD hS (lv_sub hl [1, 2, 3, 4, 0] rfl) hF
              clear e_k116
              have hL31 : ∀ n : Nat, ∀ (x5_7 : Int32) (H : Heap) (locs : List Loc) (ls : Array Slot), va_P (dC, dI) vwCl (rW cI h a r_ties r_six r_rows r_box r_worth r_image r_best r_bestRows) H → va_D A (rW cI h a r_ties r_six r_rows r_box r_worth r_image r_best r_bestRows) → va_S A s.heap H locs → lv_has ls 6 [(0, .ref h), (1, .int x1_1), (2, .int x2_3), (3, .int x3_5), (4, .int x4_6), (5, .int x5_7)] → fX3_shortenByTwo_L31 k116 x2_3 x3_5 x1_1 r_six x4_6 k92 n x5_7 = some (ro, o_r_six, o_r_rows) → W p l e rmX3_shortenByTwo s m ([.ref h] : List Value).toArray below meth c H locs 0 0 Q (F0 m 31 ls []) := by
                intro n
                induction n with
                | zero => intro x5_7 H locs ls hP hD hS hl hF; rw [fX3_shortenByTwo_L31] at hF; cases hF
                | succ n ih31 =>
                  intro x5_7 H locs ls hP hD hS hl hF
                  rw [fX3_shortenByTwo_L31] at hF
                  refine lv_iload hx hb dX3_shortenByTwo_31 (lv_at hl 5 rfl) ?_
                  refine lv_iconst (v := 1) hx hb dX3_shortenByTwo_33 (by decide) ?_
                  refine lv_icmp_gt (tgt := 116) hx hb dX3_shortenByTwo_34 (by decide) (fun c0 => ?_) (fun c0 => ?_)
                  · have hF := if_t hF c0
                    exact hk116 H locs ls hP hD hS (lv_sub hl [0, 1, 2, 3, 4] rfl) hF
                  · have hF := if_f hF c0
                    refine lv_aload_n hx hb dX3_shortenByTwo_37 rfl (lv_at hl 0 rfl) ?_
                    refine va_get (D := (dC, dI)) (ci := 3) (v := .ref (a 1)) (C := RX3) (T := TX3) (N := 8) hx hb hts hinX3 hown hK hP 0 rfl rfl 0 (by decide) hf_7 (fun _ h9 => h9) rfl dX3_shortenByTwo_38 ?_
                    refine lv_iload_n hx hb dX3_shortenByTwo_41 rfl (lv_at hl 2 rfl) ?_
                    obtain ⟨hi, hF⟩ := ck_of hF
                    refine va_iald hx hb hK hP 1 0 rfl rfl hi dX3_shortenByTwo_42 ?_
                    refine lv_aload_n hx hb dX3_shortenByTwo_43 rfl (lv_at hl 0 rfl) ?_
                    refine va_get (D := (dC, dI)) (ci := 3) (v := .ref (a 1)) (C := RX3) (T := TX3) (N := 8) hx hb hts hinX3 hown hK hP 0 rfl rfl 0 (by decide) hf_7 (fun _ h9 => h9) rfl dX3_shortenByTwo_44 ?_
                    refine lv_iload_n hx hb dX3_shortenByTwo_47 rfl (lv_at hl 3 rfl) ?_
                    obtain ⟨hi, hF⟩ := ck_of hF
                    refine va_iald hx hb hK hP 1 0 rfl rfl hi dX3_shortenByTwo_48 ?_
                    refine lv_iadd hx hb dX3_shortenByTwo_49 ?_
                    refine lv_iload hx hb dX3_shortenByTwo_50 (lv_at hl 4 rfl) ?_
                    refine lv_aload_n hx hb dX3_shortenByTwo_52 rfl (lv_at hl 0 rfl) ?_
                    refine va_get (D := (dC, dI)) (ci := 3) (v := .ref (a 1)) (C := RX3) (T := TX3) (N := 8) hx hb hts hinX3 hown hK hP 0 rfl rfl 0 (by decide) hf_7 (fun _ h9 => h9) rfl dX3_shortenByTwo_53 ?_
                    refine lv_iconst (v := 3) hx hb dX3_shortenByTwo_56 (by decide) ?_
                    refine lv_iload_n hx hb dX3_shortenByTwo_57 rfl (lv_at hl 3 rfl) ?_
                    refine lv_iadd hx hb dX3_shortenByTwo_58 ?_
                    refine lv_topi (fun v_8 e_v_8 => ?_)
                    have hF := nm_at hF e_v_8
                    obtain ⟨hi, hF⟩ := ck_of hF
                    refine va_iald hx hb hK hP 1 0 rfl rfl hi dX3_shortenByTwo_59 ?_
                    refine lv_imul hx hb dX3_shortenByTwo_60 ?_
                    refine lv_iadd hx hb dX3_shortenByTwo_61 ?_
                    refine lv_iload hx hb dX3_shortenByTwo_62 (lv_at hl 5 rfl) ?_
                    refine lv_aload_n hx hb dX3_shortenByTwo_64 rfl (lv_at hl 0 rfl) ?_
                    refine va_get (D := (dC, dI)) (ci := 3) (v := .ref (a 1)) (C := RX3) (T := TX3) (N := 8) hx hb hts hinX3 hown hK hP 0 rfl rfl 0 (by decide) hf_7 (fun _ h9 => h9) rfl dX3_shortenByTwo_65 ?_
                    refine lv_iconst (v := 3) hx hb dX3_shortenByTwo_68 (by decide) ?_
                    refine lv_iload_n hx hb dX3_shortenByTwo_69 rfl (lv_at hl 2 rfl) ?_
                    refine lv_iadd hx hb dX3_shortenByTwo_70 ?_
                    refine lv_topi (fun v_9 e_v_9 => ?_)
                    have hF := nm_at hF e_v_9
                    obtain ⟨hi, hF⟩ := ck_of hF
                    refine va_iald hx hb hK hP 1 0 rfl rfl hi dX3_shortenByTwo_71 ?_
                    refine lv_imul hx hb dX3_shortenByTwo_72 ?_
                    refine lv_iadd hx hb dX3_shortenByTwo_73 ?_
                    refine lv_iload hx hb dX3_shortenByTwo_74 (lv_at hl 4 rfl) ?_
                    refine lv_iload hx hb dX3_shortenByTwo_76 (lv_at hl 5 rfl) ?_
                    refine lv_imul hx hb dX3_shortenByTwo_78 ?_
                    refine lv_aload_n hx hb dX3_shortenByTwo_79 rfl (lv_at hl 0 rfl) ?_
                    refine va_get (D := (dC, dI)) (ci := 3) (v := .ref (a 1)) (C := RX3) (T := TX3) (N := 8) hx hb hts hinX3 hown hK hP 0 rfl rfl 0 (by decide) hf_7 (fun _ h9 => h9) rfl dX3_shortenByTwo_80 ?_
                    refine lv_iconst (v := 3) hx hb dX3_shortenByTwo_83 (by decide) ?_
                    refine lv_iload_n hx hb dX3_shortenByTwo_84 rfl (lv_at hl 1 rfl) ?_
                    refine lv_iadd hx hb dX3_shortenByTwo_85 ?_
                    refine lv_topi (fun v_10 e_v_10 => ?_)
                    have hF := nm_at hF e_v_10
                    obtain ⟨hi, hF⟩ := ck_of hF
                    refine va_iald hx hb hK hP 1 0 rfl rfl hi dX3_shortenByTwo_86 ?_
                    refine lv_imul hx hb dX3_shortenByTwo_87 ?_
                    refine lv_iadd hx hb dX3_shortenByTwo_88 ?_
                    refine lv_if_ge (tgt := 110) hx hb dX3_shortenByTwo_89 (by decide) (fun c0 => ?_) (fun c0 => ?_)
                    · have hF := if_t hF c0
                      obtain ⟨x5_11, e_x5_11, hF⟩ := nm_ex hF
                      refine lv_iinc (v := x5_11) (lv' := [(5, .int x5_11), (0, .ref h), (1, .int x1_1), (2, .int x2_3), (3, .int x3_5), (4, .int x4_6)]) hx hb dX3_shortenByTwo_110 hl (k := 5) rfl (by rw [e_x5_11]; rfl) (by decide) rfl (fun ls hl => ?_)
                      refine lv_goto (tgt := 31) hx hb dX3_shortenByTwo_113 (by decide) ?_
                      exact ih31 x5_11 H locs ls hP hD hS (lv_sub hl [1, 2, 3, 4, 5, 0] rfl) hF
                    · have hF := if_f hF c0
                      exact hk92 x1_1 x2_3 x3_5 x4_6 x5_7 H locs ls hP hD hS (lv_sub hl [0, 1, 2, 3, 4, 5] rfl) hF
              exact hL31 fu (-1 : Int32) H locs ls hP hD hS (lv_sub hl [1, 2, 3, 4, 5, 0] rfl) hF
        exact hL22 fu (-1 : Int32) H locs ls hP hD hS (lv_sub hl [3, 4, 2, 1, 0] rfl) hF
  exact hL2 fu (0 : Int32) H locs ls hP hD hS (lv_sub hl [1, 0] rfl) hF
def fX3_fillBox_L30 (k107 : (Nat → Int32) → Option ((Nat → Int32) × (Nat → Int32))) (x1_1 : Int32) (r_box : Nat → Int32) (r_rows : Nat → Int32) : Nat → (Int32) → (Nat → Int32) → Option ((Nat → Int32) × (Nat → Int32))
  | 0, _, _ => none
  | n + 1, x2_6, r_image_7 => if (3 : Int32) ≤ x2_6 then ((k107 r_image_7)) else (nm ((3 : Int32) * x1_1) (fun (v_8 : Int32) => if okI v_8 81 then if okI x2_6 9 then nm (((3 : Int32) * x1_1) + (1 : Int32)) (fun (v_9 : Int32) => if okI v_9 81 then nm ((3 : Int32) + x2_6) (fun (v_10 : Int32) => if okI v_10 9 then nm (((3 : Int32) * x1_1) + (2 : Int32)) (fun (v_11 : Int32) => if okI v_11 81 then nm ((6 : Int32) + x2_6) (fun (v_12 : Int32) => if okI v_12 9 then nm (((3 : Int32) * x1_1) + x2_6) (fun (v_13 : Int32) => if okI v_13 81 then nm (upd r_image_7 v_13.toNatClampNeg ((((r_box v_8.toNatClampNeg) * (r_rows x2_6.toNatClampNeg)) + ((r_box v_9.toNatClampNeg) * (r_rows v_10.toNatClampNeg))) + ((r_box v_11.toNatClampNeg) * (r_rows v_12.toNatClampNeg)))) (fun (r_image_14 : Nat → Int32) => nm (x2_6 + (1 : Int32)) (fun (x2_15 : Int32) => (fX3_fillBox_L30 k107 x1_1 r_box r_rows n x2_15 r_image_14))) else none) else none) else none) else none) else none) else none else none))
def fX3_fillBox_L2 (r_six : Nat → Int32) (r_box : Nat → Int32) (r_rows : Nat → Int32) (fu : Nat) : Nat → (Int32) → (Nat → Int32) → (Nat → Int32) → Option ((Nat → Int32) × (Nat → Int32))
  | 0, _, _, _ => none
  | n + 1, x1_1, r_worth_2, r_image_3 => if (27 : Int32) ≤ x1_1 then (some (r_worth_2, r_image_3)) else (bd1 (fX4_atRow 81 r_six r_box ((3 : Int32) * x1_1)) (fun (r_4 : Int32) => if okI x1_1 27 then nm (upd r_worth_2 x1_1.toNatClampNeg r_4) (fun (r_worth_5 : Nat → Int32) => nm (fun (r_image_16 : Nat → Int32) => nm (x1_1 + (1 : Int32)) (fun (x1_17 : Int32) => (fX3_fillBox_L2 r_six r_box r_rows fu n x1_17 r_worth_5 r_image_16))) (fun (k107 : (Nat → Int32) → Option ((Nat → Int32) × (Nat → Int32))) => (fX3_fillBox_L30 k107 x1_1 r_box r_rows fu (0 : Int32) r_image_3))) else none))
def fX3_fillBox (fu : Nat) (r_six : Nat → Int32) (r_rows : Nat → Int32) (r_box : Nat → Int32) (r_worth : Nat → Int32) (r_image : Nat → Int32)  : Option ((Nat → Int32) × (Nat → Int32)) :=
  (fX3_fillBox_L2 r_six r_box r_rows fu fu (0 : Int32) r_worth r_image)
def lkX3_fillBox : List Cond := [.initialized RX4, .static yX4_atRow, .fieldLink RX3 19 "KinForms$Reducer" "worth" "[I", .fieldLink RX3 7 "KinForms$Reducer" "six" "[I", .fieldLink RX3 16 "KinForms$Reducer" "box" "[I", .fieldLink RX3 22 "KinForms$Reducer" "image" "[I", .fieldLink RX3 13 "KinForms$Reducer" "rows" "[I"]
def vX3_fillBox : List Cond := .code yX3_fillBox cX3_fillBox 3 none :: (lkX3_fillBox ++ (wsX30 ++ (vX4_atRow ++ ([]))))
theorem q_X3_fillBox : ∀ w ∈ vX3_fillBox, goodWord w = true := gd_cons rfl (gd_app (by decide +kernel) (gd_app q_wsX30 (gd_app q_X4_atRow gd_nil)))
theorem g_X3_fillBox_X4_atRow : GoodIn vX3_fillBox (vX4_atRow) := gi_of (fun w h => List.mem_cons_of_mem _ (List.mem_append_right _ (List.mem_append_right _ (List.mem_append_left _ h)))) q_X4_atRow
abbrev rmX3_fillBox : Room := { frames := 2, cells := 0, slots := 0, locals := 45 }
set_option maxHeartbeats 4000000 in
set_option maxRecDepth 100000 in
theorem c_X3_fillBox (l : Launch) (dC : Nat → ClassId) (dI : Nat → Nat → Nat) (cI : ClassId) (h : Nat) (a : Nat → Nat) (fu : Nat) (sz : Nat) (r_ties : Int32) (r_six : Nat → Int32) (r_rows : Nat → Int32) (r_box : Nat → Int32) (r_worth : Nat → Int32) (r_image : Nat → Int32) (r_best : Nat → Int32) (r_bestRows : Nat → Int32)  (o_r_worth : Nat → Int32) (o_r_image : Nat → Int32) (hF : fX3_fillBox fu r_six r_rows r_box r_worth r_image = some (o_r_worth, o_r_image)) : Met l yX3_fillBox vX3_fillBox rmX3_fillBox (va_Pc [.ref h] (mPk (dC, dI) vwCl (rW cI h a r_ties r_six r_rows r_box r_worth r_image r_best r_bestRows) [(cI, .int)] sz)) (va_Qv (fun (_ : Unit) => True) (mPo (dC, dI) vwCl (rW cI h a r_ties r_six r_rows r_box o_r_worth o_r_image r_best r_bestRows) [(cI, .int)] (va_A (rW cI h a r_ties r_six r_rows r_box r_worth r_image r_best r_bestRows) sz)) (va_A (rW cI h a r_ties r_six r_rows r_box r_worth r_image r_best r_bestRows) sz)) 0 0 (va_A (rW cI h a r_ties r_six r_rows r_box r_worth r_image r_best r_bestRows) sz) := by
  refine Met.ofW (cc := cX3_fillBox) (maxL := 3) (ret := none) (by decide) rfl ?_
  intro p e s m args below meth c s₁ B hml hv
  obtain ⟨rfl, hsz, hP, hK, hD0, hN⟩ := hv
  have hx := B.exec
  have hb := B.bytes
  have hr := B.returns
  have hts := atoms_spec (ws := vX3_fillBox) B.pre
  have hlk : ∀ w ∈ lkX3_fillBox, w.before _ s = true := fun w h => hts w (List.mem_cons_of_mem _ (List.mem_append_left _ h))
  have hown : s.vm.findClass RX3 = some m.cls := findClass_of_methodNamed B.named
  have hlocks := B.notSynchronized
  subst hsz
  have hD := hD0.self (sz := s.heap.size)
  generalize hAe : va_A (rW cI h a r_ties r_six r_rows r_box r_worth r_image r_best r_bestRows) s.heap.size = A at hD ⊢
  have hA : ∀ q : Nat, s.heap.size ≤ q → A q := fun q h => by rw [← hAe]; exact Or.inr h
  have hS : va_S A s.heap s.heap [] := va_S.rf
  have hinX3 : ∀ w ∈ wsX30, w ∈ vX3_fillBox := fun w h => List.mem_cons_of_mem _ (List.mem_append_right _ (List.mem_append_left _ h))
  have hf_19 := hlk (.fieldLink RX3 19 "KinForms$Reducer" "worth" "[I") (by decide +kernel)
  have hf_7 := hlk (.fieldLink RX3 7 "KinForms$Reducer" "six" "[I") (by decide +kernel)
  have hf_16 := hlk (.fieldLink RX3 16 "KinForms$Reducer" "box" "[I") (by decide +kernel)
  have hf_22 := hlk (.fieldLink RX3 22 "KinForms$Reducer" "image" "[I") (by decide +kernel)
  have hf_13 := hlk (.fieldLink RX3 13 "KinForms$Reducer" "rows" "[I") (by decide +kernel)
  have hl := lv_entry ([.ref h] : List Value) (n := 3) (Nat.le_of_ble_eq_true rfl)
  rw [lg_entry_eq]
  generalize (lg_sl ([.ref h] : List Value) ++ List.replicate (3 - (lg_sl ([.ref h] : List Value)).length) Slot.unset).toArray = ls at hl ⊢
  have hl : lv_has ls 3 [(0, .ref h)] := hl
  unfold fX3_fillBox at hF
  refine W_Q (fun Q hQ => ?_)
  have hP : va_P (dC, dI) vwCl (rW cI h a r_ties r_six r_rows r_box r_worth r_image r_best r_bestRows) s.heap := hP
  refine W_HL (fun H locs eH eL => ?_)
  rw [← eH] at hP
  have hS : va_S A s.heap H locs := by rw [eH, eL]; exact hS
  refine lv_iconst (v := 0) hx hb dX3_fillBox_0 (by decide) ?_
  refine lv_istore_n (lv' := [(1, .int (0 : Int32)), (0, .ref h)]) hx hb dX3_fillBox_1 rfl hl (by decide) rfl (fun ls hl => ?_)
  have hL2 : ∀ n : Nat, ∀ (x1_1 : Int32) (r_worth_2 : Nat → Int32) (r_image_3 : Nat → Int32) (H : Heap) (locs : List Loc) (ls : Array Slot), va_P (dC, dI) vwCl (rW cI h a r_ties r_six r_rows r_box r_worth_2 r_image_3 r_best r_bestRows) H → va_D A (rW cI h a r_ties r_six r_rows r_box r_worth_2 r_image_3 r_best r_bestRows) → va_S A s.heap H locs → lv_has ls 3 [(0, .ref h), (1, .int x1_1)] → fX3_fillBox_L2 r_six r_box r_rows fu n x1_1 r_worth_2 r_image_3 = some (o_r_worth, o_r_image) → W p l e rmX3_fillBox s m ([.ref h] : List Value).toArray below meth c H locs 0 0 Q (F0 m 2 ls []) := by
    intro n
    induction n with
    | zero => intro x1_1 r_worth_2 r_image_3 H locs ls hP hD hS hl hF; rw [fX3_fillBox_L2] at hF; cases hF
    | succ n ih2 =>
      intro x1_1 r_worth_2 r_image_3 H locs ls hP hD hS hl hF
      rw [fX3_fillBox_L2] at hF
      refine lv_iload_n hx hb dX3_fillBox_2 rfl (lv_at hl 1 rfl) ?_
      refine lv_bipush (v := (27)) hx hb dX3_fillBox_3 (by decide) ?_
      refine lv_icmp_ge (tgt := 113) hx hb dX3_fillBox_5 (by decide) (fun c0 => ?_) (fun c0 => ?_)
      · have hF := if_t hF c0
        obtain ⟨q0, q1⟩ := sm2 hF
        have hP : va_P (dC, dI) vwCl (rW cI h a r_ties r_six r_rows r_box o_r_worth o_r_image r_best r_bestRows) H := by rw [← q0, ← q1]; exact hP
        have hD : va_D A (rW cI h a r_ties r_six r_rows r_box o_r_worth o_r_image r_best r_bestRows) := by rw [← q0, ← q1]; exact hD
        refine W_Qe hQ ?_
        exact W.vret hx hb hr (fun t ht hW => ⟨⟨(), rfl, trivial, by rw [ht]; exact hP, va_K.moved hW.alike hK, hD⟩, hS.F ht⟩) hS.2.2 dX3_fillBox_113
      · have hF := if_f hF c0
        refine lv_aload_n hx hb dX3_fillBox_8 rfl (lv_at hl 0 rfl) ?_
        refine va_get (D := (dC, dI)) (ci := 3) (v := .ref (a 4)) (C := RX3) (T := TX3) (N := 8) hx hb hts hinX3 hown hK hP 0 rfl rfl 3 (by decide) hf_19 (fun _ h9 => h9) rfl dX3_fillBox_9 ?_
        refine lv_iload_n hx hb dX3_fillBox_12 rfl (lv_at hl 1 rfl) ?_
        refine lv_aload_n hx hb dX3_fillBox_13 rfl (lv_at hl 0 rfl) ?_
        refine va_get (D := (dC, dI)) (ci := 3) (v := .ref (a 1)) (C := RX3) (T := TX3) (N := 8) hx hb hts hinX3 hown hK hP 0 rfl rfl 0 (by decide) hf_7 (fun _ h9 => h9) rfl dX3_fillBox_14 ?_
        refine lv_aload_n hx hb dX3_fillBox_17 rfl (lv_at hl 0 rfl) ?_
        refine va_get (D := (dC, dI)) (ci := 3) (v := .ref (a 3)) (C := RX3) (T := TX3) (N := 8) hx hb hts hinX3 hown hK hP 0 rfl rfl 2 (by decide) hf_16 (fun _ h9 => h9) rfl dX3_fillBox_18 ?_
        refine lv_iconst (v := 3) hx hb dX3_fillBox_21 (by decide) ?_
        refine lv_iload_n hx hb dX3_fillBox_22 rfl (lv_at hl 1 rfl) ?_
        refine lv_imul hx hb dX3_fillBox_23 ?_
        obtain ⟨r_4, hc, hF⟩ := bd1_of hF
        refine rc_i (va_runSN (As := [.ref (a 1), .ref (a 3), .int ((3 : Int32) * x1_1)]) (rest := [.int x1_1, .ref (a 4)]) ⟨hx, hb, hml, hown, hts⟩ (c_X4_atRow l dC dI cI (a 1) (a 3) 81 r_six r_box ((3 : Int32) * x1_1) r_4 hc) ⟨va_cnB 3 hts g_X3_fillBox_X4_atRow rfl rfl rfl (hN.2 (RX3, 61, yX4_atRow, "KinForms") (by decide +kernel)) (hlk (.initialized RX4) (by decide +kernel)) (by decide +kernel) ⟨Nat.le_of_ble_eq_true rfl, Nat.le_of_ble_eq_true rfl⟩, hlk (.static yX4_atRow) (by decide +kernel), trivial⟩ ⟨rPk_blind, rPk_at hK (hP.sub (ws' := (sW2 cI (a 1) (a 3) 81 r_six r_box)) [1, 3] rfl) hN⟩ rfl rfl hl.1 rfl (lv_room (Nat.le_of_ble_eq_true rfl)) dX3_fillBox_24 ⟨Nat.zero_le _, Nat.zero_le _⟩) ?_
        obtain ⟨hi, hF⟩ := ck_of hF
        obtain ⟨r_worth_5, e_r_worth_5, hF⟩ := nm_ex hF
        refine kc_iast (j := x1_1.toNatClampNeg) (g := r_worth_5) hx hb hK hP hD hS 4 0 rfl rfl rfl hi dX3_fillBox_27 e_r_worth_5 (fun H locs hP hD hS => ?_)
        have hP : va_P (dC, dI) vwCl (rW cI h a r_ties r_six r_rows r_box r_worth_5 r_image_3 r_best r_bestRows) H := hP
        have hD : va_D A (rW cI h a r_ties r_six r_rows r_box r_worth_5 r_image_3 r_best r_bestRows) := hD
        refine lv_iconst (v := 0) hx hb dX3_fillBox_28 (by decide) ?_
        refine lv_istore_n (lv' := [(2, .int (0 : Int32)), (0, .ref h), (1, .int x1_1)]) hx hb dX3_fillBox_29 rfl hl (by decide) rfl (fun ls hl => ?_)
        obtain ⟨k107, e_k107, hF⟩ := nm_ex hF
        have hk107 : ∀ (r_image_16 : Nat → Int32) (H : Heap) (locs : List Loc) (ls : Array Slot), va_P (dC, dI) vwCl (rW cI h a r_ties r_six r_rows r_box r_worth_5 r_image_16 r_best r_bestRows) H → va_D A (rW cI h a r_ties r_six r_rows r_box r_worth_5 r_image_16 r_best r_bestRows) → va_S A s.heap H locs → lv_has ls 3 [(0, .ref h), (1, .int x1_1)] → k107 r_image_16 = some (o_r_worth, o_r_image) → W p l e rmX3_fillBox s m ([.ref h] : List Value).toArray below meth c H locs 0 0 Q (F0 m 107 ls []) := by
          intro r_image_16 H locs ls hP hD hS hl hF
          have hF := ka1 e_k107 hF
          obtain ⟨x1_17, e_x1_17, hF⟩ := nm_ex hF
          refine lv_iinc (v := x1_17) (lv' := [(1, .int x1_17), (0, .ref h)]) hx hb dX3_fillBox_107 hl (k := 1) rfl (by rw [e_x1_17]; rfl) (by decide) rfl (fun ls hl => ?_)
          refine lv_goto (tgt := 2) hx hb dX3_fillBox_110 (by decide) ?_
          exact ih2 x1_17 r_worth_5 r_image_16 H locs ls hP hD hS (lv_sub hl [1, 0] rfl) hF
        clear e_k107
        have hL30 : ∀ n : Nat, ∀ (x2_6 : Int32) (r_image_7 : Nat → Int32) (H : Heap) (locs : List Loc) (ls : Array Slot), va_P (dC, dI) vwCl (rW cI h a r_ties r_six r_rows r_box r_worth_5 r_image_7 r_best r_bestRows) H → va_D A (rW cI h a r_ties r_six r_rows r_box r_worth_5 r_image_7 r_best r_bestRows) → va_S A s.heap H locs → lv_has ls 3 [(0, .ref h), (1, .int x1_1), (2, .int x2_6)] → fX3_fillBox_L30 k107 x1_1 r_box r_rows n x2_6 r_image_7 = some (o_r_worth, o_r_image) → W p l e rmX3_fillBox s m ([.ref h] : List Value).toArray below meth c H locs 0 0 Q (F0 m 30 ls []) := by
          intro n
          induction n with
          | zero => intro x2_6 r_image_7 H locs ls hP hD hS hl hF; rw [fX3_fillBox_L30] at hF; cases hF
          | succ n ih30 =>
            intro x2_6 r_image_7 H locs ls hP hD hS hl hF
            rw [fX3_fillBox_L30] at hF
            refine lv_iload_n hx hb dX3_fillBox_30 rfl (lv_at hl 2 rfl) ?_
            refine lv_iconst (v := 3) hx hb dX3_fillBox_31 (by decide) ?_
            refine lv_icmp_ge (tgt := 107) hx hb dX3_fillBox_32 (by decide) (fun c0 => ?_) (fun c0 => ?_)
            · have hF := if_t hF c0
              exact hk107 r_image_7 H locs ls hP hD hS (lv_sub hl [0, 1] rfl) hF
            · have hF := if_f hF c0
              refine lv_aload_n hx hb dX3_fillBox_35 rfl (lv_at hl 0 rfl) ?_
              refine va_get (D := (dC, dI)) (ci := 3) (v := .ref (a 5)) (C := RX3) (T := TX3) (N := 8) hx hb hts hinX3 hown hK hP 0 rfl rfl 4 (by decide) hf_22 (fun _ h9 => h9) rfl dX3_fillBox_36 ?_
              refine lv_iconst (v := 3) hx hb dX3_fillBox_39 (by decide) ?_
              refine lv_iload_n hx hb dX3_fillBox_40 rfl (lv_at hl 1 rfl) ?_
              refine lv_imul hx hb dX3_fillBox_41 ?_
              refine lv_iload_n hx hb dX3_fillBox_42 rfl (lv_at hl 2 rfl) ?_
              refine lv_iadd hx hb dX3_fillBox_43 ?_
              refine lv_aload_n hx hb dX3_fillBox_44 rfl (lv_at hl 0 rfl) ?_
              refine va_get (D := (dC, dI)) (ci := 3) (v := .ref (a 3)) (C := RX3) (T := TX3) (N := 8) hx hb hts hinX3 hown hK hP 0 rfl rfl 2 (by decide) hf_16 (fun _ h9 => h9) rfl dX3_fillBox_45 ?_
              refine lv_iconst (v := 3) hx hb dX3_fillBox_48 (by decide) ?_
              refine lv_iload_n hx hb dX3_fillBox_49 rfl (lv_at hl 1 rfl) ?_
              refine lv_imul hx hb dX3_fillBox_50 ?_
              refine lv_topi (fun v_8 e_v_8 => ?_)
              have hF := nm_at hF e_v_8
              obtain ⟨hi, hF⟩ := ck_of hF
              refine va_iald hx hb hK hP 3 0 rfl rfl hi dX3_fillBox_51 ?_
              refine lv_aload_n hx hb dX3_fillBox_52 rfl (lv_at hl 0 rfl) ?_
              refine va_get (D := (dC, dI)) (ci := 3) (v := .ref (a 2)) (C := RX3) (T := TX3) (N := 8) hx hb hts hinX3 hown hK hP 0 rfl rfl 1 (by decide) hf_13 (fun _ h9 => h9) rfl dX3_fillBox_53 ?_
              refine lv_iload_n hx hb dX3_fillBox_56 rfl (lv_at hl 2 rfl) ?_
              obtain ⟨hi, hF⟩ := ck_of hF
              refine va_iald hx hb hK hP 2 0 rfl rfl hi dX3_fillBox_57 ?_
              refine lv_imul hx hb dX3_fillBox_58 ?_
              refine lv_aload_n hx hb dX3_fillBox_59 rfl (lv_at hl 0 rfl) ?_
              refine va_get (D := (dC, dI)) (ci := 3) (v := .ref (a 3)) (C := RX3) (T := TX3) (N := 8) hx hb hts hinX3 hown hK hP 0 rfl rfl 2 (by decide) hf_16 (fun _ h9 => h9) rfl dX3_fillBox_60 ?_
              refine lv_iconst (v := 3) hx hb dX3_fillBox_63 (by decide) ?_
              refine lv_iload_n hx hb dX3_fillBox_64 rfl (lv_at hl 1 rfl) ?_
              refine lv_imul hx hb dX3_fillBox_65 ?_
              refine lv_iconst (v := 1) hx hb dX3_fillBox_66 (by decide) ?_
              refine lv_iadd hx hb dX3_fillBox_67 ?_
              refine lv_topi (fun v_9 e_v_9 => ?_)
              have hF := nm_at hF e_v_9
              obtain ⟨hi, hF⟩ := ck_of hF
              refine va_iald hx hb hK hP 3 0 rfl rfl hi dX3_fillBox_68 ?_
              refine lv_aload_n hx hb dX3_fillBox_69 rfl (lv_at hl 0 rfl) ?_
              refine va_get (D := (dC, dI)) (ci := 3) (v := .ref (a 2)) (C := RX3) (T := TX3) (N := 8) hx hb hts hinX3 hown hK hP 0 rfl rfl 1 (by decide) hf_13 (fun _ h9 => h9) rfl dX3_fillBox_70 ?_
              refine lv_iconst (v := 3) hx hb dX3_fillBox_73 (by decide) ?_
              refine lv_iload_n hx hb dX3_fillBox_74 rfl (lv_at hl 2 rfl) ?_
              refine lv_iadd hx hb dX3_fillBox_75 ?_
              refine lv_topi (fun v_10 e_v_10 => ?_)
              have hF := nm_at hF e_v_10
              obtain ⟨hi, hF⟩ := ck_of hF
              refine va_iald hx hb hK hP 2 0 rfl rfl hi dX3_fillBox_76 ?_
              refine lv_imul hx hb dX3_fillBox_77 ?_
              refine lv_iadd hx hb dX3_fillBox_78 ?_
              refine lv_aload_n hx hb dX3_fillBox_79 rfl (lv_at hl 0 rfl) ?_
              refine va_get (D := (dC, dI)) (ci := 3) (v := .ref (a 3)) (C := RX3) (T := TX3) (N := 8) hx hb hts hinX3 hown hK hP 0 rfl rfl 2 (by decide) hf_16 (fun _ h9 => h9) rfl dX3_fillBox_80 ?_
              refine lv_iconst (v := 3) hx hb dX3_fillBox_83 (by decide) ?_
              refine lv_iload_n hx hb dX3_fillBox_84 rfl (lv_at hl 1 rfl) ?_
              refine lv_imul hx hb dX3_fillBox_85 ?_
              refine lv_iconst (v := 2) hx hb dX3_fillBox_86 (by decide) ?_
              refine lv_iadd hx hb dX3_fillBox_87 ?_
              refine lv_topi (fun v_11 e_v_11 => ?_)
              have hF := nm_at hF e_v_11
              obtain ⟨hi, hF⟩ := ck_of hF
              refine va_iald hx hb hK hP 3 0 rfl rfl hi dX3_fillBox_88 ?_
              refine lv_aload_n hx hb dX3_fillBox_89 rfl (lv_at hl 0 rfl) ?_
              refine va_get (D := (dC, dI)) (ci := 3) (v := .ref (a 2)) (C := RX3) (T := TX3) (N := 8) hx hb hts hinX3 hown hK hP 0 rfl rfl 1 (by decide) hf_13 (fun _ h9 => h9) rfl dX3_fillBox_90 ?_
              refine lv_bipush (v := (6)) hx hb dX3_fillBox_93 (by decide) ?_
              refine lv_iload_n hx hb dX3_fillBox_95 rfl (lv_at hl 2 rfl) ?_
              refine lv_iadd hx hb dX3_fillBox_96 ?_
              refine lv_topi (fun v_12 e_v_12 => ?_)
              have hF := nm_at hF e_v_12
              obtain ⟨hi, hF⟩ := ck_of hF
              refine va_iald hx hb hK hP 2 0 rfl rfl hi dX3_fillBox_97 ?_
              refine lv_imul hx hb dX3_fillBox_98 ?_
              refine lv_iadd hx hb dX3_fillBox_99 ?_
              obtain ⟨v_13, e_v_13, hF⟩ := nm_ex hF
              rw [← e_v_13]
              obtain ⟨hi, hF⟩ := ck_of hF
              obtain ⟨r_image_14, e_r_image_14, hF⟩ := nm_ex hF
              refine kc_iast (j := v_13.toNatClampNeg) (g := r_image_14) hx hb hK hP hD hS 5 0 rfl rfl rfl hi dX3_fillBox_100 e_r_image_14 (fun H locs hP hD hS => ?_)
              have hP : va_P (dC, dI) vwCl (rW cI h a r_ties r_six r_rows r_box r_worth_5 r_image_14 r_best r_bestRows) H := hP
              have hD : va_D A (rW cI h a r_ties r_six r_rows r_box r_worth_5 r_image_14 r_best r_bestRows) := hD
              obtain ⟨x2_15, e_x2_15, hF⟩ := nm_ex hF
              refine lv_iinc (v := x2_15) (lv' := [(2, .int x2_15), (0, .ref h), (1, .int x1_1)]) hx hb dX3_fillBox_101 hl (k := 2) rfl (by rw [e_x2_15]; rfl) (by decide) rfl (fun ls hl => ?_)
              refine lv_goto (tgt := 30) hx hb dX3_fillBox_104 (by decide) ?_
              exact ih30 x2_15 r_image_14 H locs ls hP hD hS (lv_sub hl [1, 2, 0] rfl) hF
        exact hL30 fu (0 : Int32) r_image_3 H locs ls hP hD hS (lv_sub hl [1, 2, 0] rfl) hF
  exact hL2 fu (0 : Int32) r_worth r_image H locs ls hP hD hS (lv_sub hl [1, 0] rfl) hF
def fX3_compareTouches (r_best : Nat → Int32) (p0 : Int32) (p1 : Int32) (p2 : Int32) : Option (Int32) :=
  if p0 = (r_best 3) then (nm (fun (s_3 : Int32) => some s_3) (fun (k54 : (Int32) → Option (Int32)) => if p1 = (r_best 4) then (bd1 (fJ6_compare_7cf53 p2 (r_best 5)) (fun (r_1 : Int32) => (k54 r_1))) else (bd1 (fJ6_compare_7cf53 p1 (r_best 4)) (fun (r_2 : Int32) => (k54 r_2))))) else (bd1 (fJ6_compare_7cf53 p0 (r_best 3)) (fun (r_4 : Int32) => some r_4))
def lkX3_compareTouches : List Cond := [.fieldLink RX3 25 "KinForms$Reducer" "best" "[I"]
def vX3_compareTouches : List Cond := .code yX3_compareTouches cX3_compareTouches 4 (some .int) :: (lkX3_compareTouches ++ (wsX30 ++ (va_wsS RX3 98 yJ6_compare_7cf53 vJ6_compare_7cf53 ++ ([]))))
theorem q_X3_compareTouches : ∀ w ∈ vX3_compareTouches, goodWord w = true := gd_cons rfl (gd_app (by decide +kernel) (gd_app q_wsX30 (gd_app (gd_S q_J6_compare_7cf53) gd_nil)))
theorem g_X3_compareTouches_J6_compare_7cf53 : GoodIn vX3_compareTouches (va_wsS RX3 98 yJ6_compare_7cf53 vJ6_compare_7cf53) := gi_of (fun w h => List.mem_cons_of_mem _ (List.mem_append_right _ (List.mem_append_right _ (List.mem_append_left _ h)))) (gd_S q_J6_compare_7cf53)
abbrev rmX3_compareTouches : Room := { frames := 1, cells := 0, slots := 0, locals := 21 }
set_option maxHeartbeats 4000000 in
set_option maxRecDepth 100000 in
theorem c_X3_compareTouches (l : Launch) (dC : Nat → ClassId) (dI : Nat → Nat → Nat) (cI : ClassId) (h : Nat) (a : Nat → Nat) (r_ties : Int32) (r_six : Nat → Int32) (r_rows : Nat → Int32) (r_box : Nat → Int32) (r_worth : Nat → Int32) (r_image : Nat → Int32) (r_best : Nat → Int32) (r_bestRows : Nat → Int32) (p0 : Int32) (p1 : Int32) (p2 : Int32) (ro : Int32) (hF : fX3_compareTouches r_best p0 p1 p2 = some ro) : Met l yX3_compareTouches vX3_compareTouches rmX3_compareTouches (va_Pc [.ref h, .int p0, .int p1, .int p2] (rPk (dC, dI) vwCl (rW cI h a r_ties r_six r_rows r_box r_worth r_image r_best r_bestRows) [(cI, .int)])) (vp_Si (fun x => x = ro)) 0 0 (fun _ => False) := by
  refine Met.ofW (cc := cX3_compareTouches) (maxL := 4) (ret := (some .int)) (by decide) rfl ?_
  intro p e s m args below meth c s₁ B hml hv
  obtain ⟨rfl, hP, hK, hN⟩ := hv
  have hx := B.exec
  have hb := B.bytes
  have hr := B.returns
  have hts := atoms_spec (ws := vX3_compareTouches) B.pre
  have hlk : ∀ w ∈ lkX3_compareTouches, w.before _ s = true := fun w h => hts w (List.mem_cons_of_mem _ (List.mem_append_left _ h))
  have hown : s.vm.findClass RX3 = some m.cls := findClass_of_methodNamed B.named
  have hlocks := B.notSynchronized
  have hinX3 : ∀ w ∈ wsX30, w ∈ vX3_compareTouches := fun w h => List.mem_cons_of_mem _ (List.mem_append_right _ (List.mem_append_left _ h))
  have hf_25 := hlk (.fieldLink RX3 25 "KinForms$Reducer" "best" "[I") (by decide +kernel)
  have hl := lv_entry ([.ref h, .int p0, .int p1, .int p2] : List Value) (n := 4) (Nat.le_of_ble_eq_true rfl)
  rw [lg_entry_eq]
  generalize (lg_sl ([.ref h, .int p0, .int p1, .int p2] : List Value) ++ List.replicate (4 - (lg_sl ([.ref h, .int p0, .int p1, .int p2] : List Value)).length) Slot.unset).toArray = ls at hl ⊢
  have hl : lv_has ls 4 [(0, .ref h), (1, .int p0), (2, .int p1), (3, .int p2)] := hl
  unfold fX3_compareTouches at hF
  refine W_Q (fun Q hQ => ?_)
  refine lv_iload_n hx hb dX3_compareTouches_0 rfl (lv_at hl 1 rfl) ?_
  refine lv_aload_n hx hb dX3_compareTouches_1 rfl (lv_at hl 0 rfl) ?_
  refine va_get (D := (dC, dI)) (ci := 3) (v := .ref (a 6)) (C := RX3) (T := TX3) (N := 8) hx hb hts hinX3 hown hK hP 0 rfl rfl 5 (by decide) hf_25 (fun _ h9 => h9) rfl dX3_compareTouches_2 ?_
  refine lv_iconst (v := 3) hx hb dX3_compareTouches_5 (by decide) ?_
  refine kc_iald (j := 3) hx hb hK hP 6 0 rfl rfl (by decide) (by decide) dX3_compareTouches_6 ?_
  refine lv_icmp_eq (tgt := 21) hx hb dX3_compareTouches_7 (by decide) (fun c0 => ?_) (fun c0 => ?_)
  · have hF := if_t hF c0
    refine lv_iload_n hx hb dX3_compareTouches_21 rfl (lv_at hl 2 rfl) ?_
    refine lv_aload_n hx hb dX3_compareTouches_22 rfl (lv_at hl 0 rfl) ?_
    refine va_get (D := (dC, dI)) (ci := 3) (v := .ref (a 6)) (C := RX3) (T := TX3) (N := 8) hx hb hts hinX3 hown hK hP 0 rfl rfl 5 (by decide) hf_25 (fun _ h9 => h9) rfl dX3_compareTouches_23 ?_
    refine lv_iconst (v := 4) hx hb dX3_compareTouches_26 (by decide) ?_
    refine kc_iald (j := 4) hx hb hK hP 6 0 rfl rfl (by decide) (by decide) dX3_compareTouches_27 ?_
    obtain ⟨k54, e_k54, hF⟩ := nm_ex hF
    have hk54 : ∀ (s_3 : Int32) (ls : Array Slot), lv_has ls 4 [] → k54 s_3 = some ro → W p l e rmX3_compareTouches s m ([.ref h, .int p0, .int p1, .int p2] : List Value).toArray below meth c s.heap [] 0 0 Q (F0 m 54 ls [.int s_3]) := by
      intro s_3 ls hl hF
      have hF := ka1 e_k54 hF
      have q0 := sm1 hF
      refine W_Qe hQ ?_
      exact W.iret hx hb hr (fun t ht hW => ⟨_, rfl, q0, ht⟩) (fun _ h9 => by cases h9) dX3_compareTouches_54
    clear e_k54
    refine lv_icmp_eq (tgt := 44) hx hb dX3_compareTouches_28 (by decide) (fun c0 => ?_) (fun c0 => ?_)
    · have hF := if_t hF c0
      refine lv_iload_n hx hb dX3_compareTouches_44 rfl (lv_at hl 3 rfl) ?_
      refine lv_aload_n hx hb dX3_compareTouches_45 rfl (lv_at hl 0 rfl) ?_
      refine va_get (D := (dC, dI)) (ci := 3) (v := .ref (a 6)) (C := RX3) (T := TX3) (N := 8) hx hb hts hinX3 hown hK hP 0 rfl rfl 5 (by decide) hf_25 (fun _ h9 => h9) rfl dX3_compareTouches_46 ?_
      refine lv_iconst (v := 5) hx hb dX3_compareTouches_49 (by decide) ?_
      refine kc_iald (j := 5) hx hb hK hP 6 0 rfl rfl (by decide) (by decide) dX3_compareTouches_50 ?_
      obtain ⟨r_1, hc, hF⟩ := bd1_of hF
      refine rc_i (va_runS (As := [.int p2, .int (r_best 5)]) (rest := []) ⟨hx, hb, hml, hown, hts⟩ (c_J6_compare_7cf53 l p2 (r_best 5) r_1 hc) (va_cwS 2 hts g_X3_compareTouches_J6_compare_7cf53 rfl rfl rfl (by decide +kernel) ⟨Nat.le_of_ble_eq_true rfl, Nat.le_of_ble_eq_true rfl⟩) ⟨tPc_blind, tPc_at⟩ rfl rfl hl.1 rfl (lv_room (Nat.le_of_ble_eq_true rfl)) dX3_compareTouches_51 ⟨Nat.zero_le _, Nat.zero_le _⟩) ?_
      exact hk54 r_1 ls (lv_sub hl [] rfl) hF
    · have hF := if_f hF c0
      refine lv_iload_n hx hb dX3_compareTouches_31 rfl (lv_at hl 2 rfl) ?_
      refine lv_aload_n hx hb dX3_compareTouches_32 rfl (lv_at hl 0 rfl) ?_
      refine va_get (D := (dC, dI)) (ci := 3) (v := .ref (a 6)) (C := RX3) (T := TX3) (N := 8) hx hb hts hinX3 hown hK hP 0 rfl rfl 5 (by decide) hf_25 (fun _ h9 => h9) rfl dX3_compareTouches_33 ?_
      refine lv_iconst (v := 4) hx hb dX3_compareTouches_36 (by decide) ?_
      refine kc_iald (j := 4) hx hb hK hP 6 0 rfl rfl (by decide) (by decide) dX3_compareTouches_37 ?_
      obtain ⟨r_2, hc, hF⟩ := bd1_of hF
      refine rc_i (va_runS (As := [.int p1, .int (r_best 4)]) (rest := []) ⟨hx, hb, hml, hown, hts⟩ (c_J6_compare_7cf53 l p1 (r_best 4) r_2 hc) (va_cwS 2 hts g_X3_compareTouches_J6_compare_7cf53 rfl rfl rfl (by decide +kernel) ⟨Nat.le_of_ble_eq_true rfl, Nat.le_of_ble_eq_true rfl⟩) ⟨tPc_blind, tPc_at⟩ rfl rfl hl.1 rfl (lv_room (Nat.le_of_ble_eq_true rfl)) dX3_compareTouches_38 ⟨Nat.zero_le _, Nat.zero_le _⟩) ?_
      refine lv_goto (tgt := 54) hx hb dX3_compareTouches_41 (by decide) ?_
      exact hk54 r_2 ls (lv_sub hl [] rfl) hF
  · have hF := if_f hF c0
    refine lv_iload_n hx hb dX3_compareTouches_10 rfl (lv_at hl 1 rfl) ?_
    refine lv_aload_n hx hb dX3_compareTouches_11 rfl (lv_at hl 0 rfl) ?_
    refine va_get (D := (dC, dI)) (ci := 3) (v := .ref (a 6)) (C := RX3) (T := TX3) (N := 8) hx hb hts hinX3 hown hK hP 0 rfl rfl 5 (by decide) hf_25 (fun _ h9 => h9) rfl dX3_compareTouches_12 ?_
    refine lv_iconst (v := 3) hx hb dX3_compareTouches_15 (by decide) ?_
    refine kc_iald (j := 3) hx hb hK hP 6 0 rfl rfl (by decide) (by decide) dX3_compareTouches_16 ?_
    obtain ⟨r_4, hc, hF⟩ := bd1_of hF
    refine rc_i (va_runS (As := [.int p0, .int (r_best 3)]) (rest := []) ⟨hx, hb, hml, hown, hts⟩ (c_J6_compare_7cf53 l p0 (r_best 3) r_4 hc) (va_cwS 2 hts g_X3_compareTouches_J6_compare_7cf53 rfl rfl rfl (by decide +kernel) ⟨Nat.le_of_ble_eq_true rfl, Nat.le_of_ble_eq_true rfl⟩) ⟨tPc_blind, tPc_at⟩ rfl rfl hl.1 rfl (lv_room (Nat.le_of_ble_eq_true rfl)) dX3_compareTouches_17 ⟨Nat.zero_le _, Nat.zero_le _⟩) ?_
    have q0 := sm1 hF
    refine W_Qe hQ ?_
    exact W.iret hx hb hr (fun t ht hW => ⟨_, rfl, q0, ht⟩) (fun _ h9 => by cases h9) dX3_compareTouches_20
def fX3_isAhead_L3 (r_image : Nat → Int32) (r_bestRows : Nat → Int32) (k60 : (Int32) → (Int32) → Option (Int32)) (p2 : Int32) (p1 : Int32) (p0 : Int32) : Nat → (Int32) → Option (Int32)
  | 0, _ => none
  | n + 1, x4_1 => if (9 : Int32) ≤ x4_1 then (some (0 : Int32)) else (nm (fun (s_2 : Int32) => nm (s_2 + (x4_1 - x4_1 / (3 : Int32) * (3 : Int32))) (fun (v_3 : Int32) => if okI v_3 81 then nm (r_image v_3.toNatClampNeg) (fun (x6_4 : Int32) => if okI x4_1 9 then if x6_4 = (r_bestRows x4_1.toNatClampNeg) then (nm (x4_1 + (1 : Int32)) (fun (x4_5 : Int32) => (fX3_isAhead_L3 r_image r_bestRows k60 p2 p1 p0 n x4_5))) else ((k60 x4_1 x6_4)) else none) else none)) (fun (k32 : (Int32) → Option (Int32)) => if (3 : Int32) ≤ x4_1 then (if (6 : Int32) ≤ x4_1 then ((k32 p2)) else ((k32 p1))) else ((k32 p0))))
def fX3_isAhead (fu : Nat) (r_image : Nat → Int32) (r_bestRows : Nat → Int32) (p0 : Int32) (p1 : Int32) (p2 : Int32) : Option (Int32) :=
  nm (fun (x4_6 : Int32) (x6_7 : Int32) => if okI x4_6 9 then nm (fun (s_8 : Int32) => if s_8 = 0 ∨ s_8 = 1 then some s_8 else none) (fun (k77 : (Int32) → Option (Int32)) => if (r_bestRows x4_6.toNatClampNeg) ≤ x6_7 then ((k77 (0 : Int32))) else ((k77 (1 : Int32)))) else none) (fun (k60 : (Int32) → (Int32) → Option (Int32)) => (fX3_isAhead_L3 r_image r_bestRows k60 p2 p1 p0 fu (0 : Int32)))
def lkX3_isAhead : List Cond := [.fieldLink RX3 22 "KinForms$Reducer" "image" "[I", .fieldLink RX3 28 "KinForms$Reducer" "bestRows" "[I"]
def vX3_isAhead : List Cond := .code yX3_isAhead cX3_isAhead 7 (some .boolean) :: (lkX3_isAhead ++ (wsX30 ++ ([])))
theorem q_X3_isAhead : ∀ w ∈ vX3_isAhead, goodWord w = true := gd_cons rfl (gd_app (by decide +kernel) (gd_app q_wsX30 gd_nil))
abbrev rmX3_isAhead : Room := { frames := 0, cells := 0, slots := 0, locals := 0 }
set_option maxHeartbeats 4000000 in
set_option maxRecDepth 100000 in
theorem c_X3_isAhead (l : Launch) (dC : Nat → ClassId) (dI : Nat → Nat → Nat) (cI : ClassId) (h : Nat) (a : Nat → Nat) (fu : Nat) (r_ties : Int32) (r_six : Nat → Int32) (r_rows : Nat → Int32) (r_box : Nat → Int32) (r_worth : Nat → Int32) (r_image : Nat → Int32) (r_best : Nat → Int32) (r_bestRows : Nat → Int32) (p0 : Int32) (p1 : Int32) (p2 : Int32) (ro : Int32) (hF : fX3_isAhead fu r_image r_bestRows p0 p1 p2 = some ro) : Met l yX3_isAhead vX3_isAhead rmX3_isAhead (va_Pc [.ref h, .int p0, .int p1, .int p2] (rPk (dC, dI) vwCl (rW cI h a r_ties r_six r_rows r_box r_worth r_image r_best r_bestRows) [(cI, .int)])) (vp_Si (fun x => x = ro)) 0 0 (fun _ => False) := by
  refine Met.ofW (cc := cX3_isAhead) (maxL := 7) (ret := (some .boolean)) (by decide) rfl ?_
  intro p e s m args below meth c s₁ B hml hv
  obtain ⟨rfl, hP, hK, hN⟩ := hv
  have hx := B.exec
  have hb := B.bytes
  have hr := B.returns
  have hts := atoms_spec (ws := vX3_isAhead) B.pre
  have hlk : ∀ w ∈ lkX3_isAhead, w.before _ s = true := fun w h => hts w (List.mem_cons_of_mem _ (List.mem_append_left _ h))
  have hown : s.vm.findClass RX3 = some m.cls := findClass_of_methodNamed B.named
  have hlocks := B.notSynchronized
  have hinX3 : ∀ w ∈ wsX30, w ∈ vX3_isAhead := fun w h => List.mem_cons_of_mem _ (List.mem_append_right _ (List.mem_append_left _ h))
  have hf_22 := hlk (.fieldLink RX3 22 "KinForms$Reducer" "image" "[I") (by decide +kernel)
  have hf_28 := hlk (.fieldLink RX3 28 "KinForms$Reducer" "bestRows" "[I") (by decide +kernel)
  have hl := lv_entry ([.ref h, .int p0, .int p1, .int p2] : List Value) (n := 7) (Nat.le_of_ble_eq_true rfl)
  rw [lg_entry_eq]
  generalize (lg_sl ([.ref h, .int p0, .int p1, .int p2] : List Value) ++ List.replicate (7 - (lg_sl ([.ref h, .int p0, .int p1, .int p2] : List Value)).length) Slot.unset).toArray = ls at hl ⊢
  have hl : lv_has ls 7 [(0, .ref h), (1, .int p0), (2, .int p1), (3, .int p2)] := hl
  unfold fX3_isAhead at hF
  refine W_Q (fun Q hQ => ?_)
  refine lv_iconst (v := 0) hx hb dX3_isAhead_0 (by decide) ?_
  refine lv_istore (lv' := [(4, .int (0 : Int32)), (0, .ref h), (1, .int p0), (2, .int p1), (3, .int p2)]) hx hb dX3_isAhead_1 hl (by decide) rfl (fun ls hl => ?_)
  obtain ⟨k60, e_k60, hF⟩ := nm_ex hF
  have hk60 : ∀ (x4_6 : Int32) (x6_7 : Int32) (ls : Array Slot), lv_has ls 7 [(0, .ref h), (4, .int x4_6), (6, .int x6_7)] → k60 x4_6 x6_7 = some ro → W p l e rmX3_isAhead s m ([.ref h, .int p0, .int p1, .int p2] : List Value).toArray below meth c s.heap [] 0 0 Q (F0 m 60 ls []) := by
    intro x4_6 x6_7 ls hl hF
    have hF := ka2 e_k60 hF
    refine lv_iload hx hb dX3_isAhead_60 (lv_at hl 2 rfl) ?_
    refine lv_aload_n hx hb dX3_isAhead_62 rfl (lv_at hl 0 rfl) ?_
    refine va_get (D := (dC, dI)) (ci := 3) (v := .ref (a 7)) (C := RX3) (T := TX3) (N := 8) hx hb hts hinX3 hown hK hP 0 rfl rfl 6 (by decide) hf_28 (fun _ h9 => h9) rfl dX3_isAhead_63 ?_
    refine lv_iload hx hb dX3_isAhead_66 (lv_at hl 1 rfl) ?_
    obtain ⟨hi, hF⟩ := ck_of hF
    refine va_iald hx hb hK hP 7 0 rfl rfl hi dX3_isAhead_68 ?_
    obtain ⟨k77, e_k77, hF⟩ := nm_ex hF
    have hk77 : ∀ (s_8 : Int32) (ls : Array Slot), lv_has ls 7 [] → k77 s_8 = some ro → W p l e rmX3_isAhead s m ([.ref h, .int p0, .int p1, .int p2] : List Value).toArray below meth c s.heap [] 0 0 Q (F0 m 77 ls [.int s_8]) := by
      intro s_8 ls hl hF
      have hF := ka1 e_k77 hF
      obtain ⟨hz, hF⟩ := ck_of hF
      have q0 := sm1 hF
      refine W_Qe hQ ?_
      exact W.zret (ty := .boolean) hx hb hr (nz_bool hz) (fun t ht hW => ⟨_, rfl, q0, ht⟩) (fun _ h9 => by cases h9) dX3_isAhead_77
    clear e_k77
    refine lv_icmp_ge (tgt := 76) hx hb dX3_isAhead_69 (by decide) (fun c0 => ?_) (fun c0 => ?_)
    · have hF := if_t hF c0
      refine lv_iconst (v := 0) hx hb dX3_isAhead_76 (by decide) ?_
      exact hk77 (0 : Int32) ls (lv_sub hl [] rfl) hF
    · have hF := if_f hF c0
      refine lv_iconst (v := 1) hx hb dX3_isAhead_72 (by decide) ?_
      refine lv_goto (tgt := 77) hx hb dX3_isAhead_73 (by decide) ?_
      exact hk77 (1 : Int32) ls (lv_sub hl [] rfl) hF
  clear e_k60
  have hL3 : ∀ n : Nat, ∀ (x4_1 : Int32) (ls : Array Slot), lv_has ls 7 [(0, .ref h), (1, .int p0), (2, .int p1), (3, .int p2), (4, .int x4_1)] → fX3_isAhead_L3 r_image r_bestRows k60 p2 p1 p0 n x4_1 = some ro → W p l e rmX3_isAhead s m ([.ref h, .int p0, .int p1, .int p2] : List Value).toArray below meth c s.heap [] 0 0 Q (F0 m 3 ls []) := by
    intro n
    induction n with
    | zero => intro x4_1 ls hl hF; rw [fX3_isAhead_L3] at hF; cases hF
    | succ n ih3 =>
      intro x4_1 ls hl hF
      rw [fX3_isAhead_L3] at hF
      refine lv_iload hx hb dX3_isAhead_3 (lv_at hl 4 rfl) ?_
      refine lv_bipush (v := (9)) hx hb dX3_isAhead_5 (by decide) ?_
      refine lv_icmp_ge (tgt := 84) hx hb dX3_isAhead_7 (by decide) (fun c0 => ?_) (fun c0 => ?_)
      · have hF := if_t hF c0
        refine lv_iconst (v := 0) hx hb dX3_isAhead_84 (by decide) ?_
        have q0 := sm1 hF
        refine W_Qe hQ ?_
        exact W.zret (ty := .boolean) hx hb hr (nz_bool (by decide)) (fun t ht hW => ⟨_, rfl, q0, ht⟩) (fun _ h9 => by cases h9) dX3_isAhead_85
      · have hF := if_f hF c0
        refine lv_iload hx hb dX3_isAhead_10 (lv_at hl 4 rfl) ?_
        refine lv_iconst (v := 3) hx hb dX3_isAhead_12 (by decide) ?_
        obtain ⟨k32, e_k32, hF⟩ := nm_ex hF
        have hk32 : ∀ (s_2 : Int32) (ls : Array Slot), lv_has ls 7 [(0, .ref h), (1, .int p0), (2, .int p1), (3, .int p2), (4, .int x4_1)] → k32 s_2 = some ro → W p l e rmX3_isAhead s m ([.ref h, .int p0, .int p1, .int p2] : List Value).toArray below meth c s.heap [] 0 0 Q (F0 m 32 ls [.int s_2]) := by
          intro s_2 ls hl hF
          have hF := ka1 e_k32 hF
          refine lv_istore (lv' := [(5, .int s_2), (0, .ref h), (1, .int p0), (2, .int p1), (3, .int p2), (4, .int x4_1)]) hx hb dX3_isAhead_32 hl (by decide) rfl (fun ls hl => ?_)
          refine lv_aload_n hx hb dX3_isAhead_34 rfl (lv_at hl 1 rfl) ?_
          refine va_get (D := (dC, dI)) (ci := 3) (v := .ref (a 5)) (C := RX3) (T := TX3) (N := 8) hx hb hts hinX3 hown hK hP 0 rfl rfl 4 (by decide) hf_22 (fun _ h9 => h9) rfl dX3_isAhead_35 ?_
          refine lv_iload hx hb dX3_isAhead_38 (lv_at hl 0 rfl) ?_
          refine lv_iload hx hb dX3_isAhead_40 (lv_at hl 5 rfl) ?_
          refine lv_iconst (v := 3) hx hb dX3_isAhead_42 (by decide) ?_
          refine lv_irem hx hb dX3_isAhead_43 (by decide) ?_
          refine lv_iadd hx hb dX3_isAhead_44 ?_
          refine lv_topi (fun v_3 e_v_3 => ?_)
          have hF := nm_at hF e_v_3
          obtain ⟨hi, hF⟩ := ck_of hF
          refine va_iald hx hb hK hP 5 0 rfl rfl hi dX3_isAhead_45 ?_
          refine lv_topi (fun x6_4 e_x6_4 => ?_)
          have hF := nm_at hF e_x6_4
          refine lv_istore (lv' := [(6, .int x6_4), (5, .int s_2), (0, .ref h), (1, .int p0), (2, .int p1), (3, .int p2), (4, .int x4_1)]) hx hb dX3_isAhead_46 hl (by decide) rfl (fun ls hl => ?_)
          refine lv_iload hx hb dX3_isAhead_48 (lv_at hl 0 rfl) ?_
          refine lv_aload_n hx hb dX3_isAhead_50 rfl (lv_at hl 2 rfl) ?_
          refine va_get (D := (dC, dI)) (ci := 3) (v := .ref (a 7)) (C := RX3) (T := TX3) (N := 8) hx hb hts hinX3 hown hK hP 0 rfl rfl 6 (by decide) hf_28 (fun _ h9 => h9) rfl dX3_isAhead_51 ?_
          refine lv_iload hx hb dX3_isAhead_54 (lv_at hl 6 rfl) ?_
          obtain ⟨hi, hF⟩ := ck_of hF
          refine va_iald hx hb hK hP 7 0 rfl rfl hi dX3_isAhead_56 ?_
          refine lv_icmp_eq (tgt := 78) hx hb dX3_isAhead_57 (by decide) (fun c0 => ?_) (fun c0 => ?_)
          · have hF := if_t hF c0
            obtain ⟨x4_5, e_x4_5, hF⟩ := nm_ex hF
            refine lv_iinc (v := x4_5) (lv' := [(4, .int x4_5), (6, .int x6_4), (5, .int s_2), (0, .ref h), (1, .int p0), (2, .int p1), (3, .int p2)]) hx hb dX3_isAhead_78 hl (k := 6) rfl (by rw [e_x4_5]; rfl) (by decide) rfl (fun ls hl => ?_)
            refine lv_goto (tgt := 3) hx hb dX3_isAhead_81 (by decide) ?_
            exact ih3 x4_5 ls (lv_sub hl [3, 4, 5, 6, 0] rfl) hF
          · have hF := if_f hF c0
            exact hk60 x4_1 x6_4 ls (lv_sub hl [2, 6, 0] rfl) hF
        clear e_k32
        refine lv_icmp_ge (tgt := 20) hx hb dX3_isAhead_13 (by decide) (fun c0 => ?_) (fun c0 => ?_)
        · have hF := if_t hF c0
          refine lv_iload hx hb dX3_isAhead_20 (lv_at hl 4 rfl) ?_
          refine lv_bipush (v := (6)) hx hb dX3_isAhead_22 (by decide) ?_
          refine lv_icmp_ge (tgt := 31) hx hb dX3_isAhead_24 (by decide) (fun c0 => ?_) (fun c0 => ?_)
          · have hF := if_t hF c0
            refine lv_iload_n hx hb dX3_isAhead_31 rfl (lv_at hl 3 rfl) ?_
            exact hk32 p2 ls (lv_sub hl [0, 1, 2, 3, 4] rfl) hF
          · have hF := if_f hF c0
            refine lv_iload_n hx hb dX3_isAhead_27 rfl (lv_at hl 2 rfl) ?_
            refine lv_goto (tgt := 32) hx hb dX3_isAhead_28 (by decide) ?_
            exact hk32 p1 ls (lv_sub hl [0, 1, 2, 3, 4] rfl) hF
        · have hF := if_f hF c0
          refine lv_iload_n hx hb dX3_isAhead_16 rfl (lv_at hl 1 rfl) ?_
          refine lv_goto (tgt := 32) hx hb dX3_isAhead_17 (by decide) ?_
          exact hk32 p0 ls (lv_sub hl [0, 1, 2, 3, 4] rfl) hF
  exact hL3 fu (0 : Int32) ls (lv_sub hl [1, 2, 3, 4, 0] rfl) hF
def fX3_consider (fu : Nat) (r_ties : Int32) (r_six : Nat → Int32) (r_box : Nat → Int32) (r_image : Nat → Int32) (r_best : Nat → Int32) (r_bestRows : Nat → Int32) (p0 : Int32) (p1 : Int32) (p2 : Int32) : Option ((Int32) × (Nat → Int32) × (Nat → Int32)) :=
  bd1 (fX4_touch 81 r_six r_box p1 p2) (fun (r_1 : Int32) => bd1 (fX4_touch 81 r_six r_box p0 p2) (fun (r_2 : Int32) => bd1 (fX4_touch 81 r_six r_box p0 p1) (fun (r_3 : Int32) => nm (fun (s_5 : Int32) => if s_5 ≤ 0 then (nm (fun (r_ties_9 : Int32) (r_best_10 : Nat → Int32) => nm (fun (r_bestRows_15 : Nat → Int32) => nm (r_ties_9 + (1 : Int32)) (fun (r_ties_16 : Int32) => some (r_ties_16, r_best_10, r_bestRows_15))) (fun (k168 : (Nat → Int32) → Option ((Int32) × (Nat → Int32) × (Nat → Int32))) => nm (if ¬ p0 < 0 then if p0.toNatClampNeg + 3 ≤ 81 then nm (va_cpy r_image r_bestRows p0.toNatClampNeg 0 3) (fun (r_bestRows_12 : Nat → Int32) => if ¬ p1 < 0 then if p1.toNatClampNeg + 3 ≤ 81 then nm (va_cpy r_image r_bestRows_12 p1.toNatClampNeg 3 3) (fun (r_bestRows_13 : Nat → Int32) => if ¬ p2 < 0 then if p2.toNatClampNeg + 3 ≤ 81 then nm (va_cpy r_image r_bestRows_13 p2.toNatClampNeg 6 3) (fun (r_bestRows_14 : Nat → Int32) => (k168 r_bestRows_14)) else none else none) else none else none) else none else none) (fun (k125 : Option ((Int32) × (Nat → Int32) × (Nat → Int32))) => if r_ties_9 = 0 then ((k125)) else (bd1 (fX3_isAhead fu r_image r_bestRows p0 p1 p2) (fun (r_11 : Int32) => if r_11 = 0 then ((k168 r_bestRows)) else ((k125))))))) (fun (k108 : (Int32) → (Nat → Int32) → Option ((Int32) × (Nat → Int32) × (Nat → Int32))) => if 0 ≤ s_5 then ((k108 r_ties r_best)) else (nm (upd r_best 3 r_1) (fun (r_best_6 : Nat → Int32) => nm (upd r_best_6 4 r_2) (fun (r_best_7 : Nat → Int32) => nm (upd r_best_7 5 r_3) (fun (r_best_8 : Nat → Int32) => (k108 (0 : Int32) r_best_8))))))) else (some (r_ties, r_best, r_bestRows))) (fun (k66 : (Int32) → Option ((Int32) × (Nat → Int32) × (Nat → Int32))) => if r_ties = 0 then ((k66 (-1 : Int32))) else (bd1 (fX3_compareTouches r_best r_1 r_2 r_3) (fun (r_4 : Int32) => (k66 r_4)))))))
def lkX3_consider : List Cond := [.initialized RX4, .static yX4_touch, .methodLink RX3 31 arraycopyName, .native arraycopyName, .static arraycopyName, .initialized "java/lang/System", .fieldLink RX3 7 "KinForms$Reducer" "six" "[I", .fieldLink RX3 16 "KinForms$Reducer" "box" "[I", .fieldLink RX3 73 "KinForms$Reducer" "ties" "I", .fieldLink RX3 25 "KinForms$Reducer" "best" "[I", .fieldLink RX3 22 "KinForms$Reducer" "image" "[I", .fieldLink RX3 28 "KinForms$Reducer" "bestRows" "[I"]
def vX3_consider : List Cond := .code yX3_consider cX3_consider 8 none :: (lkX3_consider ++ (wsX30 ++ (vX4_touch ++ (wsV RX3 90 RX3 yX3_compareTouches vX3_compareTouches ++ (wsV RX3 94 RX3 yX3_isAhead vX3_isAhead ++ ([]))))))
theorem q_X3_consider : ∀ w ∈ vX3_consider, goodWord w = true := gd_cons rfl (gd_app (by decide +kernel) (gd_app q_wsX30 (gd_app q_X4_touch (gd_app (gd_V q_X3_compareTouches) (gd_app (gd_V q_X3_isAhead) gd_nil)))))
theorem g_X3_consider_X4_touch : GoodIn vX3_consider (vX4_touch) := gi_of (fun w h => List.mem_cons_of_mem _ (List.mem_append_right _ (List.mem_append_right _ (List.mem_append_left _ h)))) q_X4_touch
theorem g_X3_consider_X3_compareTouches : GoodIn vX3_consider (wsV RX3 90 RX3 yX3_compareTouches vX3_compareTouches) := gi_of (fun w h => List.mem_cons_of_mem _ (List.mem_append_right _ (List.mem_append_right _ (List.mem_append_right _ (List.mem_append_left _ h))))) (gd_V q_X3_compareTouches)
theorem g_X3_consider_X3_isAhead : GoodIn vX3_consider (wsV RX3 94 RX3 yX3_isAhead vX3_isAhead) := gi_of (fun w h => List.mem_cons_of_mem _ (List.mem_append_right _ (List.mem_append_right _ (List.mem_append_right _ (List.mem_append_right _ (List.mem_append_left _ h)))))) (gd_V q_X3_isAhead)
abbrev rmX3_consider : Room := { frames := 2, cells := 0, slots := 0, locals := 44 }
set_option maxHeartbeats 4000000 in
set_option maxRecDepth 100000 in
theorem c_X3_consider (l : Launch) (dC : Nat → ClassId) (dI : Nat → Nat → Nat) (cI : ClassId) (h : Nat) (a : Nat → Nat) (fu : Nat) (sz : Nat) (r_ties : Int32) (r_six : Nat → Int32) (r_rows : Nat → Int32) (r_box : Nat → Int32) (r_worth : Nat → Int32) (r_image : Nat → Int32) (r_best : Nat → Int32) (r_bestRows : Nat → Int32) (p0 : Int32) (p1 : Int32) (p2 : Int32) (o_r_ties : Int32) (o_r_best : Nat → Int32) (o_r_bestRows : Nat → Int32) (hF : fX3_consider fu r_ties r_six r_box r_image r_best r_bestRows p0 p1 p2 = some (o_r_ties, o_r_best, o_r_bestRows)) : Met l yX3_consider vX3_consider rmX3_consider (va_Pc [.ref h, .int p0, .int p1, .int p2] (mPk (dC, dI) vwCl (rW cI h a r_ties r_six r_rows r_box r_worth r_image r_best r_bestRows) [(cI, .int)] sz)) (va_Qv (fun (_ : Unit) => True) (mPo (dC, dI) vwCl (rW cI h a o_r_ties r_six r_rows r_box r_worth r_image o_r_best o_r_bestRows) [(cI, .int)] (va_A (rW cI h a r_ties r_six r_rows r_box r_worth r_image r_best r_bestRows) sz)) (va_A (rW cI h a r_ties r_six r_rows r_box r_worth r_image r_best r_bestRows) sz)) 0 0 (va_A (rW cI h a r_ties r_six r_rows r_box r_worth r_image r_best r_bestRows) sz) := by
  refine Met.ofW (cc := cX3_consider) (maxL := 8) (ret := none) (by decide) rfl ?_
  intro p e s m args below meth c s₁ B hml hv
  obtain ⟨rfl, hsz, hP, hK, hD0, hN⟩ := hv
  have hx := B.exec
  have hb := B.bytes
  have hr := B.returns
  have hts := atoms_spec (ws := vX3_consider) B.pre
  have hlk : ∀ w ∈ lkX3_consider, w.before _ s = true := fun w h => hts w (List.mem_cons_of_mem _ (List.mem_append_left _ h))
  have hown : s.vm.findClass RX3 = some m.cls := findClass_of_methodNamed B.named
  have hlocks := B.notSynchronized
  subst hsz
  have hD := hD0.self (sz := s.heap.size)
  generalize hAe : va_A (rW cI h a r_ties r_six r_rows r_box r_worth r_image r_best r_bestRows) s.heap.size = A at hD ⊢
  have hA : ∀ q : Nat, s.heap.size ≤ q → A q := fun q h => by rw [← hAe]; exact Or.inr h
  have hS : va_S A s.heap s.heap [] := va_S.rf
  have hinX3 : ∀ w ∈ wsX30, w ∈ vX3_consider := fun w h => List.mem_cons_of_mem _ (List.mem_append_right _ (List.mem_append_left _ h))
  have hf_7 := hlk (.fieldLink RX3 7 "KinForms$Reducer" "six" "[I") (by decide +kernel)
  have hf_16 := hlk (.fieldLink RX3 16 "KinForms$Reducer" "box" "[I") (by decide +kernel)
  have hf_73 := hlk (.fieldLink RX3 73 "KinForms$Reducer" "ties" "I") (by decide +kernel)
  have hf_25 := hlk (.fieldLink RX3 25 "KinForms$Reducer" "best" "[I") (by decide +kernel)
  have hf_22 := hlk (.fieldLink RX3 22 "KinForms$Reducer" "image" "[I") (by decide +kernel)
  have hf_28 := hlk (.fieldLink RX3 28 "KinForms$Reducer" "bestRows" "[I") (by decide +kernel)
  have hl := lv_entry ([.ref h, .int p0, .int p1, .int p2] : List Value) (n := 8) (Nat.le_of_ble_eq_true rfl)
  rw [lg_entry_eq]
  generalize (lg_sl ([.ref h, .int p0, .int p1, .int p2] : List Value) ++ List.replicate (8 - (lg_sl ([.ref h, .int p0, .int p1, .int p2] : List Value)).length) Slot.unset).toArray = ls at hl ⊢
  have hl : lv_has ls 8 [(0, .ref h), (1, .int p0), (2, .int p1), (3, .int p2)] := hl
  unfold fX3_consider at hF
  refine W_Q (fun Q hQ => ?_)
  have hP : va_P (dC, dI) vwCl (rW cI h a r_ties r_six r_rows r_box r_worth r_image r_best r_bestRows) s.heap := hP
  refine W_HL (fun H locs eH eL => ?_)
  rw [← eH] at hP
  have hS : va_S A s.heap H locs := by rw [eH, eL]; exact hS
  refine lv_aload_n hx hb dX3_consider_0 rfl (lv_at hl 0 rfl) ?_
  refine va_get (D := (dC, dI)) (ci := 3) (v := .ref (a 1)) (C := RX3) (T := TX3) (N := 8) hx hb hts hinX3 hown hK hP 0 rfl rfl 0 (by decide) hf_7 (fun _ h9 => h9) rfl dX3_consider_1 ?_
  refine lv_aload_n hx hb dX3_consider_4 rfl (lv_at hl 0 rfl) ?_
  refine va_get (D := (dC, dI)) (ci := 3) (v := .ref (a 3)) (C := RX3) (T := TX3) (N := 8) hx hb hts hinX3 hown hK hP 0 rfl rfl 2 (by decide) hf_16 (fun _ h9 => h9) rfl dX3_consider_5 ?_
  refine lv_iload_n hx hb dX3_consider_8 rfl (lv_at hl 2 rfl) ?_
  refine lv_iload_n hx hb dX3_consider_9 rfl (lv_at hl 3 rfl) ?_
  obtain ⟨r_1, hc, hF⟩ := bd1_of hF
  refine rc_i (va_runSN (As := [.ref (a 1), .ref (a 3), .int p1, .int p2]) (rest := []) ⟨hx, hb, hml, hown, hts⟩ (c_X4_touch l dC dI cI (a 1) (a 3) 81 r_six r_box p1 p2 r_1 hc) ⟨va_cnB 4 hts g_X3_consider_X4_touch rfl rfl rfl (hN.2 (RX3, 86, yX4_touch, "KinForms") (by decide +kernel)) (hlk (.initialized RX4) (by decide +kernel)) (by decide +kernel) ⟨Nat.le_of_ble_eq_true rfl, Nat.le_of_ble_eq_true rfl⟩, hlk (.static yX4_touch) (by decide +kernel), trivial⟩ ⟨rPk_blind, rPk_at hK (hP.sub (ws' := (sW2 cI (a 1) (a 3) 81 r_six r_box)) [1, 3] rfl) hN⟩ rfl rfl hl.1 rfl (lv_room (Nat.le_of_ble_eq_true rfl)) dX3_consider_10 ⟨Nat.zero_le _, Nat.zero_le _⟩) ?_
  refine lv_istore (lv' := [(4, .int r_1), (0, .ref h), (1, .int p0), (2, .int p1), (3, .int p2)]) hx hb dX3_consider_13 hl (by decide) rfl (fun ls hl => ?_)
  refine lv_aload_n hx hb dX3_consider_15 rfl (lv_at hl 1 rfl) ?_
  refine va_get (D := (dC, dI)) (ci := 3) (v := .ref (a 1)) (C := RX3) (T := TX3) (N := 8) hx hb hts hinX3 hown hK hP 0 rfl rfl 0 (by decide) hf_7 (fun _ h9 => h9) rfl dX3_consider_16 ?_
  refine lv_aload_n hx hb dX3_consider_19 rfl (lv_at hl 1 rfl) ?_
  refine va_get (D := (dC, dI)) (ci := 3) (v := .ref (a 3)) (C := RX3) (T := TX3) (N := 8) hx hb hts hinX3 hown hK hP 0 rfl rfl 2 (by decide) hf_16 (fun _ h9 => h9) rfl dX3_consider_20 ?_
  refine lv_iload_n hx hb dX3_consider_23 rfl (lv_at hl 2 rfl) ?_
  refine lv_iload_n hx hb dX3_consider_24 rfl (lv_at hl 4 rfl) ?_
  obtain ⟨r_2, hc, hF⟩ := bd1_of hF
  refine rc_i (va_runSN (As := [.ref (a 1), .ref (a 3), .int p0, .int p2]) (rest := []) ⟨hx, hb, hml, hown, hts⟩ (c_X4_touch l dC dI cI (a 1) (a 3) 81 r_six r_box p0 p2 r_2 hc) ⟨va_cnB 4 hts g_X3_consider_X4_touch rfl rfl rfl (hN.2 (RX3, 86, yX4_touch, "KinForms") (by decide +kernel)) (hlk (.initialized RX4) (by decide +kernel)) (by decide +kernel) ⟨Nat.le_of_ble_eq_true rfl, Nat.le_of_ble_eq_true rfl⟩, hlk (.static yX4_touch) (by decide +kernel), trivial⟩ ⟨rPk_blind, rPk_at hK (hP.sub (ws' := (sW2 cI (a 1) (a 3) 81 r_six r_box)) [1, 3] rfl) hN⟩ rfl rfl hl.1 rfl (lv_room (Nat.le_of_ble_eq_true rfl)) dX3_consider_25 ⟨Nat.zero_le _, Nat.zero_le _⟩) ?_
  refine lv_istore (lv' := [(5, .int r_2), (4, .int r_1), (0, .ref h), (1, .int p0), (2, .int p1), (3, .int p2)]) hx hb dX3_consider_28 hl (by decide) rfl (fun ls hl => ?_)
  refine lv_aload_n hx hb dX3_consider_30 rfl (lv_at hl 2 rfl) ?_
  refine va_get (D := (dC, dI)) (ci := 3) (v := .ref (a 1)) (C := RX3) (T := TX3) (N := 8) hx hb hts hinX3 hown hK hP 0 rfl rfl 0 (by decide) hf_7 (fun _ h9 => h9) rfl dX3_consider_31 ?_
  refine lv_aload_n hx hb dX3_consider_34 rfl (lv_at hl 2 rfl) ?_
  refine va_get (D := (dC, dI)) (ci := 3) (v := .ref (a 3)) (C := RX3) (T := TX3) (N := 8) hx hb hts hinX3 hown hK hP 0 rfl rfl 2 (by decide) hf_16 (fun _ h9 => h9) rfl dX3_consider_35 ?_
  refine lv_iload_n hx hb dX3_consider_38 rfl (lv_at hl 3 rfl) ?_
  refine lv_iload_n hx hb dX3_consider_39 rfl (lv_at hl 4 rfl) ?_
  obtain ⟨r_3, hc, hF⟩ := bd1_of hF
  refine rc_i (va_runSN (As := [.ref (a 1), .ref (a 3), .int p0, .int p1]) (rest := []) ⟨hx, hb, hml, hown, hts⟩ (c_X4_touch l dC dI cI (a 1) (a 3) 81 r_six r_box p0 p1 r_3 hc) ⟨va_cnB 4 hts g_X3_consider_X4_touch rfl rfl rfl (hN.2 (RX3, 86, yX4_touch, "KinForms") (by decide +kernel)) (hlk (.initialized RX4) (by decide +kernel)) (by decide +kernel) ⟨Nat.le_of_ble_eq_true rfl, Nat.le_of_ble_eq_true rfl⟩, hlk (.static yX4_touch) (by decide +kernel), trivial⟩ ⟨rPk_blind, rPk_at hK (hP.sub (ws' := (sW2 cI (a 1) (a 3) 81 r_six r_box)) [1, 3] rfl) hN⟩ rfl rfl hl.1 rfl (lv_room (Nat.le_of_ble_eq_true rfl)) dX3_consider_40 ⟨Nat.zero_le _, Nat.zero_le _⟩) ?_
  refine lv_istore (lv' := [(6, .int r_3), (5, .int r_2), (4, .int r_1), (0, .ref h), (1, .int p0), (2, .int p1), (3, .int p2)]) hx hb dX3_consider_43 hl (by decide) rfl (fun ls hl => ?_)
  refine lv_aload_n hx hb dX3_consider_45 rfl (lv_at hl 3 rfl) ?_
  refine va_get (D := (dC, dI)) (ci := 3) (v := .int r_ties) (C := RX3) (T := TX3) (N := 8) hx hb hts hinX3 hown hK hP 0 rfl rfl 7 (by decide) hf_73 (fun _ h9 => h9) rfl dX3_consider_46 ?_
  obtain ⟨k66, e_k66, hF⟩ := nm_ex hF
  have hk66 : ∀ (s_5 : Int32) (H : Heap) (locs : List Loc) (ls : Array Slot), va_P (dC, dI) vwCl (rW cI h a r_ties r_six r_rows r_box r_worth r_image r_best r_bestRows) H → va_D A (rW cI h a r_ties r_six r_rows r_box r_worth r_image r_best r_bestRows) → va_S A s.heap H locs → lv_has ls 8 [(0, .ref h), (1, .int p0), (2, .int p1), (3, .int p2), (4, .int r_1), (5, .int r_2), (6, .int r_3)] → k66 s_5 = some (o_r_ties, o_r_best, o_r_bestRows) → W p l e rmX3_consider s m ([.ref h, .int p0, .int p1, .int p2] : List Value).toArray below meth c H locs 0 0 Q (F0 m 66 ls [.int s_5]) := by
    intro s_5 H locs ls hP hD hS hl hF
    have hF := ka1 e_k66 hF
    refine lv_istore (lv' := [(7, .int s_5), (0, .ref h), (1, .int p0), (2, .int p1), (3, .int p2), (4, .int r_1), (5, .int r_2), (6, .int r_3)]) hx hb dX3_consider_66 hl (by decide) rfl (fun ls hl => ?_)
    refine lv_iload hx hb dX3_consider_68 (lv_at hl 0 rfl) ?_
    refine lv_if_le (tgt := 74) hx hb dX3_consider_70 (by decide) (fun c0 => ?_) (fun c0 => ?_)
    · have hF := if_t hF c0
      refine lv_iload hx hb dX3_consider_74 (lv_at hl 0 rfl) ?_
      obtain ⟨k108, e_k108, hF⟩ := nm_ex hF
      have hk108 : ∀ (r_ties_9 : Int32) (r_best_10 : Nat → Int32) (H : Heap) (locs : List Loc) (ls : Array Slot), va_P (dC, dI) vwCl (rW cI h a r_ties_9 r_six r_rows r_box r_worth r_image r_best_10 r_bestRows) H → va_D A (rW cI h a r_ties_9 r_six r_rows r_box r_worth r_image r_best_10 r_bestRows) → va_S A s.heap H locs → lv_has ls 8 [(0, .ref h), (1, .int p0), (2, .int p1), (3, .int p2)] → k108 r_ties_9 r_best_10 = some (o_r_ties, o_r_best, o_r_bestRows) → W p l e rmX3_consider s m ([.ref h, .int p0, .int p1, .int p2] : List Value).toArray below meth c H locs 0 0 Q (F0 m 108 ls []) := by
        intro r_ties_9 r_best_10 H locs ls hP hD hS hl hF
        have hF := ka2 e_k108 hF
        refine lv_aload_n hx hb dX3_consider_108 rfl (lv_at hl 0 rfl) ?_
        refine va_get (D := (dC, dI)) (ci := 3) (v := .int r_ties_9) (C := RX3) (T := TX3) (N := 8) hx hb hts hinX3 hown hK hP 0 rfl rfl 7 (by decide) hf_73 (fun _ h9 => h9) rfl dX3_consider_109 ?_
        obtain ⟨k168, e_k168, hF⟩ := nm_ex hF
        have hk168 : ∀ (r_bestRows_15 : Nat → Int32) (H : Heap) (locs : List Loc) (ls : Array Slot), va_P (dC, dI) vwCl (rW cI h a r_ties_9 r_six r_rows r_box r_worth r_image r_best_10 r_bestRows_15) H → va_D A (rW cI h a r_ties_9 r_six r_rows r_box r_worth r_image r_best_10 r_bestRows_15) → va_S A s.heap H locs → lv_has ls 8 [(0, .ref h)] → k168 r_bestRows_15 = some (o_r_ties, o_r_best, o_r_bestRows) → W p l e rmX3_consider s m ([.ref h, .int p0, .int p1, .int p2] : List Value).toArray below meth c H locs 0 0 Q (F0 m 168 ls []) := by
          intro r_bestRows_15 H locs ls hP hD hS hl hF
          have hF := ka1 e_k168 hF
          refine lv_aload_n hx hb dX3_consider_168 rfl (lv_at hl 0 rfl) ?_
          refine lv_dup hx hb dX3_consider_169 rfl ?_
          refine va_get (D := (dC, dI)) (ci := 3) (v := .int r_ties_9) (C := RX3) (T := TX3) (N := 8) hx hb hts hinX3 hown hK hP 0 rfl rfl 7 (by decide) hf_73 (fun _ h9 => h9) rfl dX3_consider_170 ?_
          refine lv_iconst (v := 1) hx hb dX3_consider_173 (by decide) ?_
          refine lv_iadd hx hb dX3_consider_174 ?_
          refine lv_topi (fun r_ties_16 e_r_ties_16 => ?_)
          have hF := nm_at hF e_r_ties_16
          refine va_put (D := (dC, dI)) (ci := 3) (v := .int r_ties_16) (ty := .int) (C := RX3) (T := TX3) (N := 8) hx hb hts hinX3 tyX3 tyX3_ok nmX3 hown hK hP hD hS 0 rfl rfl 7 (by decide) hf_73 (fun _ h9 => h9) rfl (by decide +kernel) rfl rfl (Nat.le_of_ble_eq_true rfl) dX3_consider_175 (fun H locs hP hD hS => ?_)
          have hP : va_P (dC, dI) vwCl (rW cI h a r_ties_16 r_six r_rows r_box r_worth r_image r_best_10 r_bestRows_15) H := hP
          have hD : va_D A (rW cI h a r_ties_16 r_six r_rows r_box r_worth r_image r_best_10 r_bestRows_15) := hD
          obtain ⟨q0, q1, q2⟩ := sm3 hF
          have hP : va_P (dC, dI) vwCl (rW cI h a o_r_ties r_six r_rows r_box r_worth r_image o_r_best o_r_bestRows) H := by rw [← q0, ← q1, ← q2]; exact hP
          have hD : va_D A (rW cI h a o_r_ties r_six r_rows r_box r_worth r_image o_r_best o_r_bestRows) := by rw [← q0, ← q1, ← q2]; exact hD
          refine W_Qe hQ ?_
          exact W.vret hx hb hr (fun t ht hW => ⟨⟨(), rfl, trivial, by rw [ht]; exact hP, va_K.moved hW.alike hK, hD⟩, hS.F ht⟩) hS.2.2 dX3_consider_178
        clear e_k168
        obtain ⟨k125, e_k125, hF⟩ := nm_ex hF
        have hk125 : ∀  (H : Heap) (locs : List Loc) (ls : Array Slot), va_P (dC, dI) vwCl (rW cI h a r_ties_9 r_six r_rows r_box r_worth r_image r_best_10 r_bestRows) H → va_D A (rW cI h a r_ties_9 r_six r_rows r_box r_worth r_image r_best_10 r_bestRows) → va_S A s.heap H locs → lv_has ls 8 [(0, .ref h), (1, .int p0), (2, .int p1), (3, .int p2)] → k125 = some (o_r_ties, o_r_best, o_r_bestRows) → W p l e rmX3_consider s m ([.ref h, .int p0, .int p1, .int p2] : List Value).toArray below meth c H locs 0 0 Q (F0 m 125 ls []) := by
          intro H locs ls hP hD hS hl hF
          have hF := ka0 e_k125 hF
          refine lv_aload_n hx hb dX3_consider_125 rfl (lv_at hl 0 rfl) ?_
          refine va_get (D := (dC, dI)) (ci := 3) (v := .ref (a 5)) (C := RX3) (T := TX3) (N := 8) hx hb hts hinX3 hown hK hP 0 rfl rfl 4 (by decide) hf_22 (fun _ h9 => h9) rfl dX3_consider_126 ?_
          refine lv_iload_n hx hb dX3_consider_129 rfl (lv_at hl 1 rfl) ?_
          refine lv_aload_n hx hb dX3_consider_130 rfl (lv_at hl 0 rfl) ?_
          refine va_get (D := (dC, dI)) (ci := 3) (v := .ref (a 7)) (C := RX3) (T := TX3) (N := 8) hx hb hts hinX3 hown hK hP 0 rfl rfl 6 (by decide) hf_28 (fun _ h9 => h9) rfl dX3_consider_131 ?_
          refine lv_iconst (v := 0) hx hb dX3_consider_134 (by decide) ?_
          refine lv_iconst (v := 3) hx hb dX3_consider_135 (by decide) ?_
          obtain ⟨h1, hF⟩ := ck_of hF
          obtain ⟨h4, hF⟩ := ck_of hF
          obtain ⟨r_bestRows_12, e_r_bestRows_12, hF⟩ := nm_ex hF
          refine kc_copy (N := 3) (SP := p0.toNatClampNeg) (DP := 0) (g1 := r_bestRows_12) hx hb (hml.trans hl.1.symm) hown (hlk (.methodLink RX3 31 arraycopyName) (by decide +kernel)) (hlk (.native arraycopyName) (by decide +kernel)) (hlk (.static arraycopyName) (by decide +kernel)) (hlk (.initialized "java/lang/System") (by decide +kernel)) hK hP hD hS 5 7 0 0 rfl rfl rfl rfl h1 (by decide) (by decide) (by decide) rfl (by decide) h4 (by decide) (Nat.le_of_ble_eq_true rfl) (Nat.le_of_ble_eq_true rfl) dX3_consider_136 e_r_bestRows_12 (fun H locs hP hD hS => ?_)
          have hP : va_P (dC, dI) vwCl (rW cI h a r_ties_9 r_six r_rows r_box r_worth r_image r_best_10 r_bestRows_12) H := hP
          have hD : va_D A (rW cI h a r_ties_9 r_six r_rows r_box r_worth r_image r_best_10 r_bestRows_12) := hD
          refine lv_aload_n hx hb dX3_consider_139 rfl (lv_at hl 0 rfl) ?_
          refine va_get (D := (dC, dI)) (ci := 3) (v := .ref (a 5)) (C := RX3) (T := TX3) (N := 8) hx hb hts hinX3 hown hK hP 0 rfl rfl 4 (by decide) hf_22 (fun _ h9 => h9) rfl dX3_consider_140 ?_
          refine lv_iload_n hx hb dX3_consider_143 rfl (lv_at hl 2 rfl) ?_
          refine lv_aload_n hx hb dX3_consider_144 rfl (lv_at hl 0 rfl) ?_
          refine va_get (D := (dC, dI)) (ci := 3) (v := .ref (a 7)) (C := RX3) (T := TX3) (N := 8) hx hb hts hinX3 hown hK hP 0 rfl rfl 6 (by decide) hf_28 (fun _ h9 => h9) rfl dX3_consider_145 ?_
          refine lv_iconst (v := 3) hx hb dX3_consider_148 (by decide) ?_
          refine lv_iconst (v := 3) hx hb dX3_consider_149 (by decide) ?_
          obtain ⟨h1, hF⟩ := ck_of hF
          obtain ⟨h4, hF⟩ := ck_of hF
          obtain ⟨r_bestRows_13, e_r_bestRows_13, hF⟩ := nm_ex hF
          refine kc_copy (N := 3) (SP := p1.toNatClampNeg) (DP := 3) (g1 := r_bestRows_13) hx hb (hml.trans hl.1.symm) hown (hlk (.methodLink RX3 31 arraycopyName) (by decide +kernel)) (hlk (.native arraycopyName) (by decide +kernel)) (hlk (.static arraycopyName) (by decide +kernel)) (hlk (.initialized "java/lang/System") (by decide +kernel)) hK hP hD hS 5 7 0 0 rfl rfl rfl rfl h1 (by decide) (by decide) (by decide) rfl (by decide) h4 (by decide) (Nat.le_of_ble_eq_true rfl) (Nat.le_of_ble_eq_true rfl) dX3_consider_150 e_r_bestRows_13 (fun H locs hP hD hS => ?_)
          have hP : va_P (dC, dI) vwCl (rW cI h a r_ties_9 r_six r_rows r_box r_worth r_image r_best_10 r_bestRows_13) H := hP
          have hD : va_D A (rW cI h a r_ties_9 r_six r_rows r_box r_worth r_image r_best_10 r_bestRows_13) := hD
          refine lv_aload_n hx hb dX3_consider_153 rfl (lv_at hl 0 rfl) ?_
          refine va_get (D := (dC, dI)) (ci := 3) (v := .ref (a 5)) (C := RX3) (T := TX3) (N := 8) hx hb hts hinX3 hown hK hP 0 rfl rfl 4 (by decide) hf_22 (fun _ h9 => h9) rfl dX3_consider_154 ?_
          refine lv_iload_n hx hb dX3_consider_157 rfl (lv_at hl 3 rfl) ?_
          refine lv_aload_n hx hb dX3_consider_158 rfl (lv_at hl 0 rfl) ?_
          refine va_get (D := (dC, dI)) (ci := 3) (v := .ref (a 7)) (C := RX3) (T := TX3) (N := 8) hx hb hts hinX3 hown hK hP 0 rfl rfl 6 (by decide) hf_28 (fun _ h9 => h9) rfl dX3_consider_159 ?_
          refine lv_bipush (v := (6)) hx hb dX3_consider_162 (by decide) ?_
          refine lv_iconst (v := 3) hx hb dX3_consider_164 (by decide) ?_
          obtain ⟨h1, hF⟩ := ck_of hF
          obtain ⟨h4, hF⟩ := ck_of hF
          obtain ⟨r_bestRows_14, e_r_bestRows_14, hF⟩ := nm_ex hF
          refine kc_copy (N := 3) (SP := p2.toNatClampNeg) (DP := 6) (g1 := r_bestRows_14) hx hb (hml.trans hl.1.symm) hown (hlk (.methodLink RX3 31 arraycopyName) (by decide +kernel)) (hlk (.native arraycopyName) (by decide +kernel)) (hlk (.static arraycopyName) (by decide +kernel)) (hlk (.initialized "java/lang/System") (by decide +kernel)) hK hP hD hS 5 7 0 0 rfl rfl rfl rfl h1 (by decide) (by decide) (by decide) rfl (by decide) h4 (by decide) (Nat.le_of_ble_eq_true rfl) (Nat.le_of_ble_eq_true rfl) dX3_consider_165 e_r_bestRows_14 (fun H locs hP hD hS => ?_)
          have hP : va_P (dC, dI) vwCl (rW cI h a r_ties_9 r_six r_rows r_box r_worth r_image r_best_10 r_bestRows_14) H := hP
          have hD : va_D A (rW cI h a r_ties_9 r_six r_rows r_box r_worth r_image r_best_10 r_bestRows_14) := hD
          exact hk168 r_bestRows_14 H locs ls hP hD hS (lv_sub hl [0] rfl) hF
        clear e_k125
        refine lv_if_eq (tgt := 125) hx hb dX3_consider_112 (by decide) (fun c0 => ?_) (fun c0 => ?_)
        · have hF := if_t hF c0
          exact hk125 H locs ls hP hD hS (lv_sub hl [0, 1, 2, 3] rfl) hF
        · have hF := if_f hF c0
          refine lv_aload_n hx hb dX3_consider_115 rfl (lv_at hl 0 rfl) ?_
          refine lv_iload_n hx hb dX3_consider_116 rfl (lv_at hl 1 rfl) ?_
          refine lv_iload_n hx hb dX3_consider_117 rfl (lv_at hl 2 rfl) ?_
          refine lv_iload_n hx hb dX3_consider_118 rfl (lv_at hl 3 rfl) ?_
          obtain ⟨r_11, hc, hF⟩ := bd1_of hF
          refine rc_i (va_runV (As := [.int p0, .int p1, .int p2]) (rest := []) ⟨hx, hb, hml, hown, hts⟩ (c_X3_isAhead l dC dI cI h a fu r_ties_9 r_six r_rows r_box r_worth r_image r_best_10 r_bestRows p0 p1 p2 r_11 hc) (cwV 3 hts g_X3_consider_X3_isAhead rfl rfl rfl (by decide +kernel) ⟨Nat.le_of_ble_eq_true rfl, Nat.le_of_ble_eq_true rfl⟩) ⟨rPk_blind, va_recv hK hP (ci := 3) (q0 := 0) rfl rfl, rPk_at hK hP hN⟩ rfl rfl hl.1 rfl (lv_room (Nat.le_of_ble_eq_true rfl)) dX3_consider_119 ⟨Nat.zero_le _, Nat.zero_le _⟩) ?_
          refine lv_if_eq (tgt := 168) hx hb dX3_consider_122 (by decide) (fun c0 => ?_) (fun c0 => ?_)
          · have hF := if_t hF c0
            exact hk168 r_bestRows H locs ls hP hD hS (lv_sub hl [0] rfl) hF
          · have hF := if_f hF c0
            exact hk125 H locs ls hP hD hS (lv_sub hl [0, 1, 2, 3] rfl) hF
      clear e_k108
      refine lv_if_ge (tgt := 108) hx hb dX3_consider_76 (by decide) (fun c0 => ?_) (fun c0 => ?_)
      · have hF := if_t hF c0
        exact hk108 r_ties r_best H locs ls hP hD hS (lv_sub hl [1, 2, 3, 4] rfl) hF
      · have hF := if_f hF c0
        refine lv_aload_n hx hb dX3_consider_79 rfl (lv_at hl 1 rfl) ?_
        refine va_get (D := (dC, dI)) (ci := 3) (v := .ref (a 6)) (C := RX3) (T := TX3) (N := 8) hx hb hts hinX3 hown hK hP 0 rfl rfl 5 (by decide) hf_25 (fun _ h9 => h9) rfl dX3_consider_80 ?_
        refine lv_iconst (v := 3) hx hb dX3_consider_83 (by decide) ?_
        refine lv_iload hx hb dX3_consider_84 (lv_at hl 5 rfl) ?_
        obtain ⟨r_best_6, e_r_best_6, hF⟩ := nm_ex hF
        refine kc_iast (j := 3) (g := r_best_6) hx hb hK hP hD hS 6 0 rfl rfl (by decide) (by decide) dX3_consider_86 e_r_best_6 (fun H locs hP hD hS => ?_)
        have hP : va_P (dC, dI) vwCl (rW cI h a r_ties r_six r_rows r_box r_worth r_image r_best_6 r_bestRows) H := hP
        have hD : va_D A (rW cI h a r_ties r_six r_rows r_box r_worth r_image r_best_6 r_bestRows) := hD
        refine lv_aload_n hx hb dX3_consider_87 rfl (lv_at hl 1 rfl) ?_
        refine va_get (D := (dC, dI)) (ci := 3) (v := .ref (a 6)) (C := RX3) (T := TX3) (N := 8) hx hb hts hinX3 hown hK hP 0 rfl rfl 5 (by decide) hf_25 (fun _ h9 => h9) rfl dX3_consider_88 ?_
        refine lv_iconst (v := 4) hx hb dX3_consider_91 (by decide) ?_
        refine lv_iload hx hb dX3_consider_92 (lv_at hl 6 rfl) ?_
        obtain ⟨r_best_7, e_r_best_7, hF⟩ := nm_ex hF
        refine kc_iast (j := 4) (g := r_best_7) hx hb hK hP hD hS 6 0 rfl rfl (by decide) (by decide) dX3_consider_94 e_r_best_7 (fun H locs hP hD hS => ?_)
        have hP : va_P (dC, dI) vwCl (rW cI h a r_ties r_six r_rows r_box r_worth r_image r_best_7 r_bestRows) H := hP
        have hD : va_D A (rW cI h a r_ties r_six r_rows r_box r_worth r_image r_best_7 r_bestRows) := hD
        refine lv_aload_n hx hb dX3_consider_95 rfl (lv_at hl 1 rfl) ?_
        refine va_get (D := (dC, dI)) (ci := 3) (v := .ref (a 6)) (C := RX3) (T := TX3) (N := 8) hx hb hts hinX3 hown hK hP 0 rfl rfl 5 (by decide) hf_25 (fun _ h9 => h9) rfl dX3_consider_96 ?_
        refine lv_iconst (v := 5) hx hb dX3_consider_99 (by decide) ?_
        refine lv_iload hx hb dX3_consider_100 (lv_at hl 7 rfl) ?_
        obtain ⟨r_best_8, e_r_best_8, hF⟩ := nm_ex hF
        refine kc_iast (j := 5) (g := r_best_8) hx hb hK hP hD hS 6 0 rfl rfl (by decide) (by decide) dX3_consider_102 e_r_best_8 (fun H locs hP hD hS => ?_)
        have hP : va_P (dC, dI) vwCl (rW cI h a r_ties r_six r_rows r_box r_worth r_image r_best_8 r_bestRows) H := hP
        have hD : va_D A (rW cI h a r_ties r_six r_rows r_box r_worth r_image r_best_8 r_bestRows) := hD
        refine lv_aload_n hx hb dX3_consider_103 rfl (lv_at hl 1 rfl) ?_
        refine lv_iconst (v := 0) hx hb dX3_consider_104 (by decide) ?_
        refine va_put (D := (dC, dI)) (ci := 3) (v := .int (0 : Int32)) (ty := .int) (C := RX3) (T := TX3) (N := 8) hx hb hts hinX3 tyX3 tyX3_ok nmX3 hown hK hP hD hS 0 rfl rfl 7 (by decide) hf_73 (fun _ h9 => h9) rfl (by decide +kernel) rfl rfl (Nat.le_of_ble_eq_true rfl) dX3_consider_105 (fun H locs hP hD hS => ?_)
        have hP : va_P (dC, dI) vwCl (rW cI h a (0 : Int32) r_six r_rows r_box r_worth r_image r_best_8 r_bestRows) H := hP
        have hD : va_D A (rW cI h a (0 : Int32) r_six r_rows r_box r_worth r_image r_best_8 r_bestRows) := hD
        exact hk108 (0 : Int32) r_best_8 H locs ls hP hD hS (lv_sub hl [1, 2, 3, 4] rfl) hF
    · have hF := if_f hF c0
      obtain ⟨q0, q1, q2⟩ := sm3 hF
      have hP : va_P (dC, dI) vwCl (rW cI h a o_r_ties r_six r_rows r_box r_worth r_image o_r_best o_r_bestRows) H := by rw [← q0, ← q1, ← q2]; exact hP
      have hD : va_D A (rW cI h a o_r_ties r_six r_rows r_box r_worth r_image o_r_best o_r_bestRows) := by rw [← q0, ← q1, ← q2]; exact hD
      refine W_Qe hQ ?_
      exact W.vret hx hb hr (fun t ht hW => ⟨⟨(), rfl, trivial, by rw [ht]; exact hP, va_K.moved hW.alike hK, hD⟩, hS.F ht⟩) hS.2.2 dX3_consider_73
  clear e_k66
  refine lv_if_ne (tgt := 56) hx hb dX3_consider_49 (by decide) (fun c0 => ?_) (fun c0 => ?_)
  · have hF := if_f hF c0
    refine lv_aload_n hx hb dX3_consider_56 rfl (lv_at hl 3 rfl) ?_
    refine lv_iload hx hb dX3_consider_57 (lv_at hl 2 rfl) ?_
    refine lv_iload hx hb dX3_consider_59 (lv_at hl 1 rfl) ?_
    refine lv_iload hx hb dX3_consider_61 (lv_at hl 0 rfl) ?_
    obtain ⟨r_4, hc, hF⟩ := bd1_of hF
    refine rc_i (va_runV (As := [.int r_1, .int r_2, .int r_3]) (rest := []) ⟨hx, hb, hml, hown, hts⟩ (c_X3_compareTouches l dC dI cI h a r_ties r_six r_rows r_box r_worth r_image r_best r_bestRows r_1 r_2 r_3 r_4 hc) (cwV 3 hts g_X3_consider_X3_compareTouches rfl rfl rfl (by decide +kernel) ⟨Nat.le_of_ble_eq_true rfl, Nat.le_of_ble_eq_true rfl⟩) ⟨rPk_blind, va_recv hK hP (ci := 3) (q0 := 0) rfl rfl, rPk_at hK hP hN⟩ rfl rfl hl.1 rfl (lv_room (Nat.le_of_ble_eq_true rfl)) dX3_consider_63 ⟨Nat.zero_le _, Nat.zero_le _⟩) ?_
    exact hk66 r_4 H locs ls hP hD hS (lv_sub hl [3, 4, 5, 6, 2, 1, 0] rfl) hF
  · have hF := if_t hF c0
    refine lv_iconst (v := (-1)) hx hb dX3_consider_52 (by decide) ?_
    refine lv_goto (tgt := 66) hx hb dX3_consider_53 (by decide) ?_
    exact hk66 (-1 : Int32) H locs ls hP hD hS (lv_sub hl [3, 4, 5, 6, 2, 1, 0] rfl) hF
def fX3_search_L138 (x2_12 : Int32) (r_worth : Nat → Int32) (k212 : (Int32) → (Nat → Int32) → (Nat → Int32) → Option ((Int32) × (Nat → Int32) × (Nat → Int32))) (r_box : Nat → Int32) (x1_8 : Int32) (fu : Nat) (r_six : Nat → Int32) (r_image : Nat → Int32) : Nat → (Int32) → (Int32) → (Nat → Int32) → (Nat → Int32) → Option ((Int32) × (Nat → Int32) × (Nat → Int32))
  | 0, _, _, _, _ => none
  | n + 1, x3_16, r_ties_17, r_best_18, r_bestRows_19 => if okI x2_12 27 then if (r_worth x2_12.toNatClampNeg) = (r_best_18 1) then (if (27 : Int32) ≤ x3_16 then ((k212 r_ties_17 r_best_18 r_bestRows_19)) else (if okI x3_16 27 then nm (fun (r_ties_24 : Int32) (r_best_25 : Nat → Int32) (r_bestRows_26 : Nat → Int32) => nm (x3_16 + (1 : Int32)) (fun (x3_27 : Int32) => (fX3_search_L138 x2_12 r_worth k212 r_box x1_8 fu r_six r_image n x3_27 r_ties_24 r_best_25 r_bestRows_26))) (fun (k206 : (Int32) → (Nat → Int32) → (Nat → Int32) → Option ((Int32) × (Nat → Int32) × (Nat → Int32))) => if (r_worth x3_16.toNatClampNeg) = (r_best_18 2) then (bd1 (fX6_areTable 81 r_box ((3 : Int32) * x1_8) ((3 : Int32) * x2_12) ((3 : Int32) * x3_16)) (fun (r_20 : Int32) => if r_20 = 0 then ((k206 r_ties_17 r_best_18 r_bestRows_19)) else (bd3 (fX3_consider fu r_ties_17 r_six r_box r_image r_best_18 r_bestRows_19 ((3 : Int32) * x1_8) ((3 : Int32) * x2_12) ((3 : Int32) * x3_16)) (fun (r_ties_21 : Int32) (r_best_22 : Nat → Int32) (r_bestRows_23 : Nat → Int32) => (k206 r_ties_21 r_best_22 r_bestRows_23))))) else ((k206 r_ties_17 r_best_18 r_bestRows_19))) else none)) else ((k212 r_ties_17 r_best_18 r_bestRows_19)) else none
def fX3_search_L115 (x1_8 : Int32) (r_worth : Nat → Int32) (k218 : (Int32) → (Nat → Int32) → (Nat → Int32) → Option ((Int32) × (Nat → Int32) × (Nat → Int32))) (r_box : Nat → Int32) (fu : Nat) (r_six : Nat → Int32) (r_image : Nat → Int32) : Nat → (Int32) → (Int32) → (Nat → Int32) → (Nat → Int32) → Option ((Int32) × (Nat → Int32) × (Nat → Int32))
  | 0, _, _, _, _ => none
  | n + 1, x2_12, r_ties_13, r_best_14, r_bestRows_15 => if okI x1_8 27 then if (r_worth x1_8.toNatClampNeg) = (r_best_14 0) then (if (27 : Int32) ≤ x2_12 then ((k218 r_ties_13 r_best_14 r_bestRows_15)) else (nm (fun (r_ties_28 : Int32) (r_best_29 : Nat → Int32) (r_bestRows_30 : Nat → Int32) => nm (x2_12 + (1 : Int32)) (fun (x2_31 : Int32) => (fX3_search_L115 x1_8 r_worth k218 r_box fu r_six r_image n x2_31 r_ties_28 r_best_29 r_bestRows_30))) (fun (k212 : (Int32) → (Nat → Int32) → (Nat → Int32) → Option ((Int32) × (Nat → Int32) × (Nat → Int32))) => (fX3_search_L138 x2_12 r_worth k212 r_box x1_8 fu r_six r_image fu (0 : Int32) r_ties_13 r_best_14 r_bestRows_15)))) else ((k218 r_ties_13 r_best_14 r_bestRows_15)) else none
def fX3_search_L107 (r_worth : Nat → Int32) (r_box : Nat → Int32) (fu : Nat) (r_six : Nat → Int32) (r_image : Nat → Int32) : Nat → (Int32) → (Int32) → (Nat → Int32) → (Nat → Int32) → Option ((Int32) × (Nat → Int32) × (Nat → Int32))
  | 0, _, _, _, _ => none
  | n + 1, x1_8, r_ties_9, r_best_10, r_bestRows_11 => if (27 : Int32) ≤ x1_8 then (some (r_ties_9, r_best_10, r_bestRows_11)) else (nm (fun (r_ties_32 : Int32) (r_best_33 : Nat → Int32) (r_bestRows_34 : Nat → Int32) => nm (x1_8 + (1 : Int32)) (fun (x1_35 : Int32) => (fX3_search_L107 r_worth r_box fu r_six r_image n x1_35 r_ties_32 r_best_33 r_bestRows_34))) (fun (k218 : (Int32) → (Nat → Int32) → (Nat → Int32) → Option ((Int32) × (Nat → Int32) × (Nat → Int32))) => (fX3_search_L115 x1_8 r_worth k218 r_box fu r_six r_image fu (0 : Int32) r_ties_9 r_best_10 r_bestRows_11)))
def fX3_search (fu : Nat) (r_six : Nat → Int32) (r_box : Nat → Int32) (r_worth : Nat → Int32) (r_image : Nat → Int32) (r_best : Nat → Int32) (r_bestRows : Nat → Int32)  : Option ((Int32) × (Nat → Int32) × (Nat → Int32)) :=
  nm (if (r_six 2) < (r_six 1) then (r_six 2) else (r_six 1)) (fun (v_1 : Int32) => nm (if v_1 < (r_six 0) then v_1 else (r_six 0)) (fun (v_2 : Int32) => nm (upd r_best 0 v_2) (fun (r_best_3 : Nat → Int32) => nm (if (r_six 1) < (r_six 2) then (r_six 2) else (r_six 1)) (fun (v_4 : Int32) => nm (if (r_six 0) < v_4 then v_4 else (r_six 0)) (fun (v_5 : Int32) => nm (upd r_best_3 2 v_5) (fun (r_best_6 : Nat → Int32) => nm (upd r_best_6 1 (((((r_six 0) + (r_six 1)) + (r_six 2)) - (r_best_6 0)) - (r_best_6 2))) (fun (r_best_7 : Nat → Int32) => (fX3_search_L107 r_worth r_box fu r_six r_image fu (0 : Int32) (0 : Int32) r_best_7 r_bestRows))))))))
def lkX3_search : List Cond := [.methodLink RX3 67 Lib.Math.min.name, .static Lib.Math.min.name, .initialized "java/lang/Math", .code Lib.Math.min.name Lib.Math.min.code 2 (some .int), .methodLink RX3 70 Lib.Math.max.name, .static Lib.Math.max.name, .code Lib.Math.max.name Lib.Math.max.code 2 (some .int), .initialized RX6, .static yX6_areTable, .fieldLink RX3 25 "KinForms$Reducer" "best" "[I", .fieldLink RX3 7 "KinForms$Reducer" "six" "[I", .fieldLink RX3 73 "KinForms$Reducer" "ties" "I", .fieldLink RX3 19 "KinForms$Reducer" "worth" "[I", .fieldLink RX3 16 "KinForms$Reducer" "box" "[I"]
def vX3_search : List Cond := .code yX3_search cX3_search 4 none :: (lkX3_search ++ (wsX30 ++ (vX6_areTable ++ (wsV RX3 83 RX3 yX3_consider vX3_consider ++ ([])))))
theorem q_X3_search : ∀ w ∈ vX3_search, goodWord w = true := gd_cons rfl (gd_app (by decide +kernel) (gd_app q_wsX30 (gd_app q_X6_areTable (gd_app (gd_V q_X3_consider) gd_nil))))
theorem g_X3_search_X6_areTable : GoodIn vX3_search (vX6_areTable) := gi_of (fun w h => List.mem_cons_of_mem _ (List.mem_append_right _ (List.mem_append_right _ (List.mem_append_left _ h)))) q_X6_areTable
theorem g_X3_search_X3_consider : GoodIn vX3_search (wsV RX3 83 RX3 yX3_consider vX3_consider) := gi_of (fun w h => List.mem_cons_of_mem _ (List.mem_append_right _ (List.mem_append_right _ (List.mem_append_right _ (List.mem_append_left _ h))))) (gd_V q_X3_consider)
abbrev rmX3_search : Room := { frames := 3, cells := 0, slots := 0, locals := 71 }
set_option maxHeartbeats 4000000 in
set_option maxRecDepth 100000 in
theorem c_X3_search (l : Launch) (dC : Nat → ClassId) (dI : Nat → Nat → Nat) (cI : ClassId) (h : Nat) (a : Nat → Nat) (fu : Nat) (sz : Nat) (r_ties : Int32) (r_six : Nat → Int32) (r_rows : Nat → Int32) (r_box : Nat → Int32) (r_worth : Nat → Int32) (r_image : Nat → Int32) (r_best : Nat → Int32) (r_bestRows : Nat → Int32)  (o_r_ties : Int32) (o_r_best : Nat → Int32) (o_r_bestRows : Nat → Int32) (hF : fX3_search fu r_six r_box r_worth r_image r_best r_bestRows = some (o_r_ties, o_r_best, o_r_bestRows)) : Met l yX3_search vX3_search rmX3_search (va_Pc [.ref h] (mPk (dC, dI) vwCl (rW cI h a r_ties r_six r_rows r_box r_worth r_image r_best r_bestRows) [(cI, .int)] sz)) (va_Qv (fun (_ : Unit) => True) (mPo (dC, dI) vwCl (rW cI h a o_r_ties r_six r_rows r_box r_worth r_image o_r_best o_r_bestRows) [(cI, .int)] (va_A (rW cI h a r_ties r_six r_rows r_box r_worth r_image r_best r_bestRows) sz)) (va_A (rW cI h a r_ties r_six r_rows r_box r_worth r_image r_best r_bestRows) sz)) 0 0 (va_A (rW cI h a r_ties r_six r_rows r_box r_worth r_image r_best r_bestRows) sz) := by
  refine Met.ofW (cc := cX3_search) (maxL := 4) (ret := none) (by decide) rfl ?_
  intro p e s m args below meth c s₁ B hml hv
  obtain ⟨rfl, hsz, hP, hK, hD0, hN⟩ := hv
  have hx := B.exec
  have hb := B.bytes
  have hr := B.returns
  have hts := atoms_spec (ws := vX3_search) B.pre
  have hlk : ∀ w ∈ lkX3_search, w.before _ s = true := fun w h => hts w (List.mem_cons_of_mem _ (List.mem_append_left _ h))
  have hown : s.vm.findClass RX3 = some m.cls := findClass_of_methodNamed B.named
  have hlocks := B.notSynchronized
  subst hsz
  have hD := hD0.self (sz := s.heap.size)
  generalize hAe : va_A (rW cI h a r_ties r_six r_rows r_box r_worth r_image r_best r_bestRows) s.heap.size = A at hD ⊢
  have hA : ∀ q : Nat, s.heap.size ≤ q → A q := fun q h => by rw [← hAe]; exact Or.inr h
  have hS : va_S A s.heap s.heap [] := va_S.rf
  have hinX3 : ∀ w ∈ wsX30, w ∈ vX3_search := fun w h => List.mem_cons_of_mem _ (List.mem_append_right _ (List.mem_append_left _ h))
  have hf_25 := hlk (.fieldLink RX3 25 "KinForms$Reducer" "best" "[I") (by decide +kernel)
  have hf_7 := hlk (.fieldLink RX3 7 "KinForms$Reducer" "six" "[I") (by decide +kernel)
  have hf_73 := hlk (.fieldLink RX3 73 "KinForms$Reducer" "ties" "I") (by decide +kernel)
  have hf_19 := hlk (.fieldLink RX3 19 "KinForms$Reducer" "worth" "[I") (by decide +kernel)
  have hf_16 := hlk (.fieldLink RX3 16 "KinForms$Reducer" "box" "[I") (by decide +kernel)
  have hl := lv_entry ([.ref h] : List Value) (n := 4) (Nat.le_of_ble_eq_true rfl)
  rw [lg_entry_eq]
  generalize (lg_sl ([.ref h] : List Value) ++ List.replicate (4 - (lg_sl ([.ref h] : List Value)).length) Slot.unset).toArray = ls at hl ⊢
  have hl : lv_has ls 4 [(0, .ref h)] := hl
  unfold fX3_search at hF
  refine W_Q (fun Q hQ => ?_)
  have hP : va_P (dC, dI) vwCl (rW cI h a r_ties r_six r_rows r_box r_worth r_image r_best r_bestRows) s.heap := hP
  refine W_HL (fun H locs eH eL => ?_)
  rw [← eH] at hP
  have hS : va_S A s.heap H locs := by rw [eH, eL]; exact hS
  refine lv_aload_n hx hb dX3_search_0 rfl (lv_at hl 0 rfl) ?_
  refine va_get (D := (dC, dI)) (ci := 3) (v := .ref (a 6)) (C := RX3) (T := TX3) (N := 8) hx hb hts hinX3 hown hK hP 0 rfl rfl 5 (by decide) hf_25 (fun _ h9 => h9) rfl dX3_search_1 ?_
  refine lv_iconst (v := 0) hx hb dX3_search_4 (by decide) ?_
  refine lv_aload_n hx hb dX3_search_5 rfl (lv_at hl 0 rfl) ?_
  refine va_get (D := (dC, dI)) (ci := 3) (v := .ref (a 1)) (C := RX3) (T := TX3) (N := 8) hx hb hts hinX3 hown hK hP 0 rfl rfl 0 (by decide) hf_7 (fun _ h9 => h9) rfl dX3_search_6 ?_
  refine lv_iconst (v := 0) hx hb dX3_search_9 (by decide) ?_
  refine kc_iald (j := 0) hx hb hK hP 1 0 rfl rfl (by decide) (by decide) dX3_search_10 ?_
  refine lv_aload_n hx hb dX3_search_11 rfl (lv_at hl 0 rfl) ?_
  refine va_get (D := (dC, dI)) (ci := 3) (v := .ref (a 1)) (C := RX3) (T := TX3) (N := 8) hx hb hts hinX3 hown hK hP 0 rfl rfl 0 (by decide) hf_7 (fun _ h9 => h9) rfl dX3_search_12 ?_
  refine lv_iconst (v := 1) hx hb dX3_search_15 (by decide) ?_
  refine kc_iald (j := 1) hx hb hK hP 1 0 rfl rfl (by decide) (by decide) dX3_search_16 ?_
  refine lv_aload_n hx hb dX3_search_17 rfl (lv_at hl 0 rfl) ?_
  refine va_get (D := (dC, dI)) (ci := 3) (v := .ref (a 1)) (C := RX3) (T := TX3) (N := 8) hx hb hts hinX3 hown hK hP 0 rfl rfl 0 (by decide) hf_7 (fun _ h9 => h9) rfl dX3_search_18 ?_
  refine lv_iconst (v := 2) hx hb dX3_search_21 (by decide) ?_
  refine kc_iald (j := 2) hx hb hK hP 1 0 rfl rfl (by decide) (by decide) dX3_search_22 ?_
  refine va_mmin hx hb (hml.trans hl.1.symm) hown (hlk (.methodLink RX3 67 Lib.Math.min.name) (by decide +kernel)) (hlk (.static Lib.Math.min.name) (by decide +kernel)) (hlk (.initialized "java/lang/Math") (by decide +kernel)) (hlk (.code Lib.Math.min.name Lib.Math.min.code 2 (some .int)) (by decide +kernel)) (Nat.le_of_ble_eq_true rfl) (Nat.le_of_ble_eq_true rfl) (Nat.zero_le _) (Nat.zero_le _) dX3_search_23 ?_
  refine lv_topi (fun v_1 e_v_1 => ?_)
  have hF := nm_at hF e_v_1
  refine va_mmin hx hb (hml.trans hl.1.symm) hown (hlk (.methodLink RX3 67 Lib.Math.min.name) (by decide +kernel)) (hlk (.static Lib.Math.min.name) (by decide +kernel)) (hlk (.initialized "java/lang/Math") (by decide +kernel)) (hlk (.code Lib.Math.min.name Lib.Math.min.code 2 (some .int)) (by decide +kernel)) (Nat.le_of_ble_eq_true rfl) (Nat.le_of_ble_eq_true rfl) (Nat.zero_le _) (Nat.zero_le _) dX3_search_26 ?_
  refine lv_topi (fun v_2 e_v_2 => ?_)
  have hF := nm_at hF e_v_2
  obtain ⟨r_best_3, e_r_best_3, hF⟩ := nm_ex hF
  refine kc_iast (j := 0) (g := r_best_3) hx hb hK hP hD hS 6 0 rfl rfl (by decide) (by decide) dX3_search_29 e_r_best_3 (fun H locs hP hD hS => ?_)
  have hP : va_P (dC, dI) vwCl (rW cI h a r_ties r_six r_rows r_box r_worth r_image r_best_3 r_bestRows) H := hP
  have hD : va_D A (rW cI h a r_ties r_six r_rows r_box r_worth r_image r_best_3 r_bestRows) := hD
  refine lv_aload_n hx hb dX3_search_30 rfl (lv_at hl 0 rfl) ?_
  refine va_get (D := (dC, dI)) (ci := 3) (v := .ref (a 6)) (C := RX3) (T := TX3) (N := 8) hx hb hts hinX3 hown hK hP 0 rfl rfl 5 (by decide) hf_25 (fun _ h9 => h9) rfl dX3_search_31 ?_
  refine lv_iconst (v := 2) hx hb dX3_search_34 (by decide) ?_
  refine lv_aload_n hx hb dX3_search_35 rfl (lv_at hl 0 rfl) ?_
  refine va_get (D := (dC, dI)) (ci := 3) (v := .ref (a 1)) (C := RX3) (T := TX3) (N := 8) hx hb hts hinX3 hown hK hP 0 rfl rfl 0 (by decide) hf_7 (fun _ h9 => h9) rfl dX3_search_36 ?_
  refine lv_iconst (v := 0) hx hb dX3_search_39 (by decide) ?_
  refine kc_iald (j := 0) hx hb hK hP 1 0 rfl rfl (by decide) (by decide) dX3_search_40 ?_
  refine lv_aload_n hx hb dX3_search_41 rfl (lv_at hl 0 rfl) ?_
  refine va_get (D := (dC, dI)) (ci := 3) (v := .ref (a 1)) (C := RX3) (T := TX3) (N := 8) hx hb hts hinX3 hown hK hP 0 rfl rfl 0 (by decide) hf_7 (fun _ h9 => h9) rfl dX3_search_42 ?_
  refine lv_iconst (v := 1) hx hb dX3_search_45 (by decide) ?_
  refine kc_iald (j := 1) hx hb hK hP 1 0 rfl rfl (by decide) (by decide) dX3_search_46 ?_
  refine lv_aload_n hx hb dX3_search_47 rfl (lv_at hl 0 rfl) ?_
  refine va_get (D := (dC, dI)) (ci := 3) (v := .ref (a 1)) (C := RX3) (T := TX3) (N := 8) hx hb hts hinX3 hown hK hP 0 rfl rfl 0 (by decide) hf_7 (fun _ h9 => h9) rfl dX3_search_48 ?_
  refine lv_iconst (v := 2) hx hb dX3_search_51 (by decide) ?_
  refine kc_iald (j := 2) hx hb hK hP 1 0 rfl rfl (by decide) (by decide) dX3_search_52 ?_
  refine va_mmax hx hb (hml.trans hl.1.symm) hown (hlk (.methodLink RX3 70 Lib.Math.max.name) (by decide +kernel)) (hlk (.static Lib.Math.max.name) (by decide +kernel)) (hlk (.initialized "java/lang/Math") (by decide +kernel)) (hlk (.code Lib.Math.max.name Lib.Math.max.code 2 (some .int)) (by decide +kernel)) (Nat.le_of_ble_eq_true rfl) (Nat.le_of_ble_eq_true rfl) (Nat.zero_le _) (Nat.zero_le _) dX3_search_53 ?_
  refine lv_topi (fun v_4 e_v_4 => ?_)
  have hF := nm_at hF e_v_4
  refine va_mmax hx hb (hml.trans hl.1.symm) hown (hlk (.methodLink RX3 70 Lib.Math.max.name) (by decide +kernel)) (hlk (.static Lib.Math.max.name) (by decide +kernel)) (hlk (.initialized "java/lang/Math") (by decide +kernel)) (hlk (.code Lib.Math.max.name Lib.Math.max.code 2 (some .int)) (by decide +kernel)) (Nat.le_of_ble_eq_true rfl) (Nat.le_of_ble_eq_true rfl) (Nat.zero_le _) (Nat.zero_le _) dX3_search_56 ?_
  refine lv_topi (fun v_5 e_v_5 => ?_)
  have hF := nm_at hF e_v_5
  obtain ⟨r_best_6, e_r_best_6, hF⟩ := nm_ex hF
  refine kc_iast (j := 2) (g := r_best_6) hx hb hK hP hD hS 6 0 rfl rfl (by decide) (by decide) dX3_search_59 e_r_best_6 (fun H locs hP hD hS => ?_)
  have hP : va_P (dC, dI) vwCl (rW cI h a r_ties r_six r_rows r_box r_worth r_image r_best_6 r_bestRows) H := hP
  have hD : va_D A (rW cI h a r_ties r_six r_rows r_box r_worth r_image r_best_6 r_bestRows) := hD
  refine lv_aload_n hx hb dX3_search_60 rfl (lv_at hl 0 rfl) ?_
  refine va_get (D := (dC, dI)) (ci := 3) (v := .ref (a 6)) (C := RX3) (T := TX3) (N := 8) hx hb hts hinX3 hown hK hP 0 rfl rfl 5 (by decide) hf_25 (fun _ h9 => h9) rfl dX3_search_61 ?_
  refine lv_iconst (v := 1) hx hb dX3_search_64 (by decide) ?_
  refine lv_aload_n hx hb dX3_search_65 rfl (lv_at hl 0 rfl) ?_
  refine va_get (D := (dC, dI)) (ci := 3) (v := .ref (a 1)) (C := RX3) (T := TX3) (N := 8) hx hb hts hinX3 hown hK hP 0 rfl rfl 0 (by decide) hf_7 (fun _ h9 => h9) rfl dX3_search_66 ?_
  refine lv_iconst (v := 0) hx hb dX3_search_69 (by decide) ?_
  refine kc_iald (j := 0) hx hb hK hP 1 0 rfl rfl (by decide) (by decide) dX3_search_70 ?_
  refine lv_aload_n hx hb dX3_search_71 rfl (lv_at hl 0 rfl) ?_
  refine va_get (D := (dC, dI)) (ci := 3) (v := .ref (a 1)) (C := RX3) (T := TX3) (N := 8) hx hb hts hinX3 hown hK hP 0 rfl rfl 0 (by decide) hf_7 (fun _ h9 => h9) rfl dX3_search_72 ?_
  refine lv_iconst (v := 1) hx hb dX3_search_75 (by decide) ?_
  refine kc_iald (j := 1) hx hb hK hP 1 0 rfl rfl (by decide) (by decide) dX3_search_76 ?_
  refine lv_iadd hx hb dX3_search_77 ?_
  refine lv_aload_n hx hb dX3_search_78 rfl (lv_at hl 0 rfl) ?_
  refine va_get (D := (dC, dI)) (ci := 3) (v := .ref (a 1)) (C := RX3) (T := TX3) (N := 8) hx hb hts hinX3 hown hK hP 0 rfl rfl 0 (by decide) hf_7 (fun _ h9 => h9) rfl dX3_search_79 ?_
  refine lv_iconst (v := 2) hx hb dX3_search_82 (by decide) ?_
  refine kc_iald (j := 2) hx hb hK hP 1 0 rfl rfl (by decide) (by decide) dX3_search_83 ?_
  refine lv_iadd hx hb dX3_search_84 ?_
  refine lv_aload_n hx hb dX3_search_85 rfl (lv_at hl 0 rfl) ?_
  refine va_get (D := (dC, dI)) (ci := 3) (v := .ref (a 6)) (C := RX3) (T := TX3) (N := 8) hx hb hts hinX3 hown hK hP 0 rfl rfl 5 (by decide) hf_25 (fun _ h9 => h9) rfl dX3_search_86 ?_
  refine lv_iconst (v := 0) hx hb dX3_search_89 (by decide) ?_
  refine kc_iald (j := 0) hx hb hK hP 6 0 rfl rfl (by decide) (by decide) dX3_search_90 ?_
  refine lv_isub hx hb dX3_search_91 ?_
  refine lv_aload_n hx hb dX3_search_92 rfl (lv_at hl 0 rfl) ?_
  refine va_get (D := (dC, dI)) (ci := 3) (v := .ref (a 6)) (C := RX3) (T := TX3) (N := 8) hx hb hts hinX3 hown hK hP 0 rfl rfl 5 (by decide) hf_25 (fun _ h9 => h9) rfl dX3_search_93 ?_
  refine lv_iconst (v := 2) hx hb dX3_search_96 (by decide) ?_
  refine kc_iald (j := 2) hx hb hK hP 6 0 rfl rfl (by decide) (by decide) dX3_search_97 ?_
  refine lv_isub hx hb dX3_search_98 ?_
  obtain ⟨r_best_7, e_r_best_7, hF⟩ := nm_ex hF
  refine kc_iast (j := 1) (g := r_best_7) hx hb hK hP hD hS 6 0 rfl rfl (by decide) (by decide) dX3_search_99 e_r_best_7 (fun H locs hP hD hS => ?_)
  have hP : va_P (dC, dI) vwCl (rW cI h a r_ties r_six r_rows r_box r_worth r_image r_best_7 r_bestRows) H := hP
  have hD : va_D A (rW cI h a r_ties r_six r_rows r_box r_worth r_image r_best_7 r_bestRows) := hD
  refine lv_aload_n hx hb dX3_search_100 rfl (lv_at hl 0 rfl) ?_
  refine lv_iconst (v := 0) hx hb dX3_search_101 (by decide) ?_
  refine va_put (D := (dC, dI)) (ci := 3) (v := .int (0 : Int32)) (ty := .int) (C := RX3) (T := TX3) (N := 8) hx hb hts hinX3 tyX3 tyX3_ok nmX3 hown hK hP hD hS 0 rfl rfl 7 (by decide) hf_73 (fun _ h9 => h9) rfl (by decide +kernel) rfl rfl (Nat.le_of_ble_eq_true rfl) dX3_search_102 (fun H locs hP hD hS => ?_)
  have hP : va_P (dC, dI) vwCl (rW cI h a (0 : Int32) r_six r_rows r_box r_worth r_image r_best_7 r_bestRows) H := hP
  have hD : va_D A (rW cI h a (0 : Int32) r_six r_rows r_box r_worth r_image r_best_7 r_bestRows) := hD
  refine lv_iconst (v := 0) hx hb dX3_search_105 (by decide) ?_
  refine lv_istore_n (lv' := [(1, .int (0 : Int32)), (0, .ref h)]) hx hb dX3_search_106 rfl hl (by decide) rfl (fun ls hl => ?_)
  have hL107 : ∀ n : Nat, ∀ (x1_8 : Int32) (r_ties_9 : Int32) (r_best_10 : Nat → Int32) (r_bestRows_11 : Nat → Int32) (H : Heap) (locs : List Loc) (ls : Array Slot), va_P (dC, dI) vwCl (rW cI h a r_ties_9 r_six r_rows r_box r_worth r_image r_best_10 r_bestRows_11) H → va_D A (rW cI h a r_ties_9 r_six r_rows r_box r_worth r_image r_best_10 r_bestRows_11) → va_S A s.heap H locs → lv_has ls 4 [(0, .ref h), (1, .int x1_8)] → fX3_search_L107 r_worth r_box fu r_six r_image n x1_8 r_ties_9 r_best_10 r_bestRows_11 = some (o_r_ties, o_r_best, o_r_bestRows) → W p l e rmX3_search s m ([.ref h] : List Value).toArray below meth c H locs 0 0 Q (F0 m 107 ls []) := by
    intro n
    induction n with
    | zero => intro x1_8 r_ties_9 r_best_10 r_bestRows_11 H locs ls hP hD hS hl hF; rw [fX3_search_L107] at hF; cases hF
    | succ n ih107 =>
      intro x1_8 r_ties_9 r_best_10 r_bestRows_11 H locs ls hP hD hS hl hF
      rw [fX3_search_L107] at hF
      refine lv_iload_n hx hb dX3_search_107 rfl (lv_at hl 1 rfl) ?_
      refine lv_bipush (v := (27)) hx hb dX3_search_108 (by decide) ?_
      refine lv_icmp_ge (tgt := 224) hx hb dX3_search_110 (by decide) (fun c0 => ?_) (fun c0 => ?_)
      · have hF := if_t hF c0
        obtain ⟨q0, q1, q2⟩ := sm3 hF
        have hP : va_P (dC, dI) vwCl (rW cI h a o_r_ties r_six r_rows r_box r_worth r_image o_r_best o_r_bestRows) H := by rw [← q0, ← q1, ← q2]; exact hP
        have hD : va_D A (rW cI h a o_r_ties r_six r_rows r_box r_worth r_image o_r_best o_r_bestRows) := by rw [← q0, ← q1, ← q2]; exact hD
        refine W_Qe hQ ?_
        exact W.vret hx hb hr (fun t ht hW => ⟨⟨(), rfl, trivial, by rw [ht]; exact hP, va_K.moved hW.alike hK, hD⟩, hS.F ht⟩) hS.2.2 dX3_search_224
      · have hF := if_f hF c0
        refine lv_iconst (v := 0) hx hb dX3_search_113 (by decide) ?_
        refine lv_istore_n (lv' := [(2, .int (0 : Int32)), (0, .ref h), (1, .int x1_8)]) hx hb dX3_search_114 rfl hl (by decide) rfl (fun ls hl => ?_)
        obtain ⟨k218, e_k218, hF⟩ := nm_ex hF
        have hk218 : ∀ (r_ties_32 : Int32) (r_best_33 : Nat → Int32) (r_bestRows_34 : Nat → Int32) (H : Heap) (locs : List Loc) (ls : Array Slot), va_P (dC, dI) vwCl (rW cI h a r_ties_32 r_six r_rows r_box r_worth r_image r_best_33 r_bestRows_34) H → va_D A (rW cI h a r_ties_32 r_six r_rows r_box r_worth r_image r_best_33 r_bestRows_34) → va_S A s.heap H locs → lv_has ls 4 [(0, .ref h), (1, .int x1_8)] → k218 r_ties_32 r_best_33 r_bestRows_34 = some (o_r_ties, o_r_best, o_r_bestRows) → W p l e rmX3_search s m ([.ref h] : List Value).toArray below meth c H locs 0 0 Q (F0 m 218 ls []) := by
          intro r_ties_32 r_best_33 r_bestRows_34 H locs ls hP hD hS hl hF
          have hF := ka3 e_k218 hF
          obtain ⟨x1_35, e_x1_35, hF⟩ := nm_ex hF
          refine lv_iinc (v := x1_35) (lv' := [(1, .int x1_35), (0, .ref h)]) hx hb dX3_search_218 hl (k := 1) rfl (by rw [e_x1_35]; rfl) (by decide) rfl (fun ls hl => ?_)
          refine lv_goto (tgt := 107) hx hb dX3_search_221 (by decide) ?_
          exact ih107 x1_35 r_ties_32 r_best_33 r_bestRows_34 H locs ls hP hD hS (lv_sub hl [1, 0] rfl) hF
        clear e_k218
        have hL115 : ∀ n : Nat, ∀ (x2_12 : Int32) (r_ties_13 : Int32) (r_best_14 : Nat → Int32) (r_bestRows_15 : Nat → Int32) (H : Heap) (locs : List Loc) (ls : Array Slot), va_P (dC, dI) vwCl (rW cI h a r_ties_13 r_six r_rows r_box r_worth r_image r_best_14 r_bestRows_15) H → va_D A (rW cI h a r_ties_13 r_six r_rows r_box r_worth r_image r_best_14 r_bestRows_15) → va_S A s.heap H locs → lv_has ls 4 [(0, .ref h), (1, .int x1_8), (2, .int x2_12)] → fX3_search_L115 x1_8 r_worth k218 r_box fu r_six r_image n x2_12 r_ties_13 r_best_14 r_bestRows_15 = some (o_r_ties, o_r_best, o_r_bestRows) → W p l e rmX3_search s m ([.ref h] : List Value).toArray below meth c H locs 0 0 Q (F0 m 115 ls []) := by
          intro n
          induction n with
          | zero => intro x2_12 r_ties_13 r_best_14 r_bestRows_15 H locs ls hP hD hS hl hF; rw [fX3_search_L115] at hF; cases hF
          | succ n ih115 =>
            intro x2_12 r_ties_13 r_best_14 r_bestRows_15 H locs ls hP hD hS hl hF
            rw [fX3_search_L115] at hF
            refine lv_aload_n hx hb dX3_search_115 rfl (lv_at hl 0 rfl) ?_
            refine va_get (D := (dC, dI)) (ci := 3) (v := .ref (a 4)) (C := RX3) (T := TX3) (N := 8) hx hb hts hinX3 hown hK hP 0 rfl rfl 3 (by decide) hf_19 (fun _ h9 => h9) rfl dX3_search_116 ?_
            refine lv_iload_n hx hb dX3_search_119 rfl (lv_at hl 1 rfl) ?_
            obtain ⟨hi, hF⟩ := ck_of hF
            refine va_iald hx hb hK hP 4 0 rfl rfl hi dX3_search_120 ?_
            refine lv_aload_n hx hb dX3_search_121 rfl (lv_at hl 0 rfl) ?_
            refine va_get (D := (dC, dI)) (ci := 3) (v := .ref (a 6)) (C := RX3) (T := TX3) (N := 8) hx hb hts hinX3 hown hK hP 0 rfl rfl 5 (by decide) hf_25 (fun _ h9 => h9) rfl dX3_search_122 ?_
            refine lv_iconst (v := 0) hx hb dX3_search_125 (by decide) ?_
            refine kc_iald (j := 0) hx hb hK hP 6 0 rfl rfl (by decide) (by decide) dX3_search_126 ?_
            refine lv_icmp_ne (tgt := 218) hx hb dX3_search_127 (by decide) (fun c0 => ?_) (fun c0 => ?_)
            · have hF := if_f hF c0
              exact hk218 r_ties_13 r_best_14 r_bestRows_15 H locs ls hP hD hS (lv_sub hl [0, 1] rfl) hF
            · have hF := if_t hF c0
              refine lv_iload_n hx hb dX3_search_130 rfl (lv_at hl 2 rfl) ?_
              refine lv_bipush (v := (27)) hx hb dX3_search_131 (by decide) ?_
              refine lv_icmp_ge (tgt := 218) hx hb dX3_search_133 (by decide) (fun c0 => ?_) (fun c0 => ?_)
              · have hF := if_t hF c0
                exact hk218 r_ties_13 r_best_14 r_bestRows_15 H locs ls hP hD hS (lv_sub hl [0, 1] rfl) hF
              · have hF := if_f hF c0
                refine lv_iconst (v := 0) hx hb dX3_search_136 (by decide) ?_
                refine lv_istore_n (lv' := [(3, .int (0 : Int32)), (0, .ref h), (1, .int x1_8), (2, .int x2_12)]) hx hb dX3_search_137 rfl hl (by decide) rfl (fun ls hl => ?_)
                obtain ⟨k212, e_k212, hF⟩ := nm_ex hF
                have hk212 : ∀ (r_ties_28 : Int32) (r_best_29 : Nat → Int32) (r_bestRows_30 : Nat → Int32) (H : Heap) (locs : List Loc) (ls : Array Slot), va_P (dC, dI) vwCl (rW cI h a r_ties_28 r_six r_rows r_box r_worth r_image r_best_29 r_bestRows_30) H → va_D A (rW cI h a r_ties_28 r_six r_rows r_box r_worth r_image r_best_29 r_bestRows_30) → va_S A s.heap H locs → lv_has ls 4 [(0, .ref h), (1, .int x1_8), (2, .int x2_12)] → k212 r_ties_28 r_best_29 r_bestRows_30 = some (o_r_ties, o_r_best, o_r_bestRows) → W p l e rmX3_search s m ([.ref h] : List Value).toArray below meth c H locs 0 0 Q (F0 m 212 ls []) := by
                  intro r_ties_28 r_best_29 r_bestRows_30 H locs ls hP hD hS hl hF
                  have hF := ka3 e_k212 hF
                  obtain ⟨x2_31, e_x2_31, hF⟩ := nm_ex hF
                  refine lv_iinc (v := x2_31) (lv' := [(2, .int x2_31), (0, .ref h), (1, .int x1_8)]) hx hb dX3_search_212 hl (k := 2) rfl (by rw [e_x2_31]; rfl) (by decide) rfl (fun ls hl => ?_)
                  refine lv_goto (tgt := 115) hx hb dX3_search_215 (by decide) ?_
                  exact ih115 x2_31 r_ties_28 r_best_29 r_bestRows_30 H locs ls hP hD hS (lv_sub hl [1, 2, 0] rfl) hF
                clear e_k212
                have hL138 : ∀ n : Nat, ∀ (x3_16 : Int32) (r_ties_17 : Int32) (r_best_18 : Nat → Int32) (r_bestRows_19 : Nat → Int32) (H : Heap) (locs : List Loc) (ls : Array Slot), va_P (dC, dI) vwCl (rW cI h a r_ties_17 r_six r_rows r_box r_worth r_image r_best_18 r_bestRows_19) H → va_D A (rW cI h a r_ties_17 r_six r_rows r_box r_worth r_image r_best_18 r_bestRows_19) → va_S A s.heap H locs → lv_has ls 4 [(0, .ref h), (1, .int x1_8), (2, .int x2_12), (3, .int x3_16)] → fX3_search_L138 x2_12 r_worth k212 r_box x1_8 fu r_six r_image n x3_16 r_ties_17 r_best_18 r_bestRows_19 = some (o_r_ties, o_r_best, o_r_bestRows) → W p l e rmX3_search s m ([.ref h] : List Value).toArray below meth c H locs 0 0 Q (F0 m 138 ls []) := by
                  intro n
                  induction n with
                  | zero => intro x3_16 r_ties_17 r_best_18 r_bestRows_19 H locs ls hP hD hS hl hF; rw [fX3_search_L138] at hF; cases hF
                  | succ n ih138 =>
                    intro x3_16 r_ties_17 r_best_18 r_bestRows_19 H locs ls hP hD hS hl hF
                    rw [fX3_search_L138] at hF
                    refine lv_aload_n hx hb dX3_search_138 rfl (lv_at hl 0 rfl) ?_
                    refine va_get (D := (dC, dI)) (ci := 3) (v := .ref (a 4)) (C := RX3) (T := TX3) (N := 8) hx hb hts hinX3 hown hK hP 0 rfl rfl 3 (by decide) hf_19 (fun _ h9 => h9) rfl dX3_search_139 ?_
                    refine lv_iload_n hx hb dX3_search_142 rfl (lv_at hl 2 rfl) ?_
                    obtain ⟨hi, hF⟩ := ck_of hF
                    refine va_iald hx hb hK hP 4 0 rfl rfl hi dX3_search_143 ?_
                    refine lv_aload_n hx hb dX3_search_144 rfl (lv_at hl 0 rfl) ?_
                    refine va_get (D := (dC, dI)) (ci := 3) (v := .ref (a 6)) (C := RX3) (T := TX3) (N := 8) hx hb hts hinX3 hown hK hP 0 rfl rfl 5 (by decide) hf_25 (fun _ h9 => h9) rfl dX3_search_145 ?_
                    refine lv_iconst (v := 1) hx hb dX3_search_148 (by decide) ?_
                    refine kc_iald (j := 1) hx hb hK hP 6 0 rfl rfl (by decide) (by decide) dX3_search_149 ?_
                    refine lv_icmp_ne (tgt := 212) hx hb dX3_search_150 (by decide) (fun c0 => ?_) (fun c0 => ?_)
                    · have hF := if_f hF c0
                      exact hk212 r_ties_17 r_best_18 r_bestRows_19 H locs ls hP hD hS (lv_sub hl [0, 1, 2] rfl) hF
                    · have hF := if_t hF c0
                      refine lv_iload_n hx hb dX3_search_153 rfl (lv_at hl 3 rfl) ?_
                      refine lv_bipush (v := (27)) hx hb dX3_search_154 (by decide) ?_
                      refine lv_icmp_ge (tgt := 212) hx hb dX3_search_156 (by decide) (fun c0 => ?_) (fun c0 => ?_)
                      · have hF := if_t hF c0
                        exact hk212 r_ties_17 r_best_18 r_bestRows_19 H locs ls hP hD hS (lv_sub hl [0, 1, 2] rfl) hF
                      · have hF := if_f hF c0
                        refine lv_aload_n hx hb dX3_search_159 rfl (lv_at hl 0 rfl) ?_
                        refine va_get (D := (dC, dI)) (ci := 3) (v := .ref (a 4)) (C := RX3) (T := TX3) (N := 8) hx hb hts hinX3 hown hK hP 0 rfl rfl 3 (by decide) hf_19 (fun _ h9 => h9) rfl dX3_search_160 ?_
                        refine lv_iload_n hx hb dX3_search_163 rfl (lv_at hl 3 rfl) ?_
                        obtain ⟨hi, hF⟩ := ck_of hF
                        refine va_iald hx hb hK hP 4 0 rfl rfl hi dX3_search_164 ?_
                        refine lv_aload_n hx hb dX3_search_165 rfl (lv_at hl 0 rfl) ?_
                        refine va_get (D := (dC, dI)) (ci := 3) (v := .ref (a 6)) (C := RX3) (T := TX3) (N := 8) hx hb hts hinX3 hown hK hP 0 rfl rfl 5 (by decide) hf_25 (fun _ h9 => h9) rfl dX3_search_166 ?_
                        refine lv_iconst (v := 2) hx hb dX3_search_169 (by decide) ?_
                        refine kc_iald (j := 2) hx hb hK hP 6 0 rfl rfl (by decide) (by decide) dX3_search_170 ?_
                        obtain ⟨k206, e_k206, hF⟩ := nm_ex hF
                        have hk206 : ∀ (r_ties_24 : Int32) (r_best_25 : Nat → Int32) (r_bestRows_26 : Nat → Int32) (H : Heap) (locs : List Loc) (ls : Array Slot), va_P (dC, dI) vwCl (rW cI h a r_ties_24 r_six r_rows r_box r_worth r_image r_best_25 r_bestRows_26) H → va_D A (rW cI h a r_ties_24 r_six r_rows r_box r_worth r_image r_best_25 r_bestRows_26) → va_S A s.heap H locs → lv_has ls 4 [(0, .ref h), (1, .int x1_8), (2, .int x2_12), (3, .int x3_16)] → k206 r_ties_24 r_best_25 r_bestRows_26 = some (o_r_ties, o_r_best, o_r_bestRows) → W p l e rmX3_search s m ([.ref h] : List Value).toArray below meth c H locs 0 0 Q (F0 m 206 ls []) := by
                          intro r_ties_24 r_best_25 r_bestRows_26 H locs ls hP hD hS hl hF
                          have hF := ka3 e_k206 hF
                          obtain ⟨x3_27, e_x3_27, hF⟩ := nm_ex hF
                          refine lv_iinc (v := x3_27) (lv' := [(3, .int x3_27), (0, .ref h), (1, .int x1_8), (2, .int x2_12)]) hx hb dX3_search_206 hl (k := 3) rfl (by rw [e_x3_27]; rfl) (by decide) rfl (fun ls hl => ?_)
                          refine lv_goto (tgt := 138) hx hb dX3_search_209 (by decide) ?_
                          exact ih138 x3_27 r_ties_24 r_best_25 r_bestRows_26 H locs ls hP hD hS (lv_sub hl [1, 2, 3, 0] rfl) hF
                        clear e_k206
                        refine lv_icmp_ne (tgt := 206) hx hb dX3_search_171 (by decide) (fun c0 => ?_) (fun c0 => ?_)
                        · have hF := if_f hF c0
                          exact hk206 r_ties_17 r_best_18 r_bestRows_19 H locs ls hP hD hS (lv_sub hl [0, 1, 2, 3] rfl) hF
                        · have hF := if_t hF c0
                          refine lv_aload_n hx hb dX3_search_174 rfl (lv_at hl 0 rfl) ?_
                          refine va_get (D := (dC, dI)) (ci := 3) (v := .ref (a 3)) (C := RX3) (T := TX3) (N := 8) hx hb hts hinX3 hown hK hP 0 rfl rfl 2 (by decide) hf_16 (fun _ h9 => h9) rfl dX3_search_175 ?_
                          refine lv_iconst (v := 3) hx hb dX3_search_178 (by decide) ?_
                          refine lv_iload_n hx hb dX3_search_179 rfl (lv_at hl 1 rfl) ?_
                          refine lv_imul hx hb dX3_search_180 ?_
                          refine lv_iconst (v := 3) hx hb dX3_search_181 (by decide) ?_
                          refine lv_iload_n hx hb dX3_search_182 rfl (lv_at hl 2 rfl) ?_
                          refine lv_imul hx hb dX3_search_183 ?_
                          refine lv_iconst (v := 3) hx hb dX3_search_184 (by decide) ?_
                          refine lv_iload_n hx hb dX3_search_185 rfl (lv_at hl 3 rfl) ?_
                          refine lv_imul hx hb dX3_search_186 ?_
                          obtain ⟨r_20, hc, hF⟩ := bd1_of hF
                          refine rc_i (va_runSN (As := [.ref (a 3), .int ((3 : Int32) * x1_8), .int ((3 : Int32) * x2_12), .int ((3 : Int32) * x3_16)]) (rest := []) ⟨hx, hb, hml, hown, hts⟩ (c_X6_areTable l dC dI cI (a 3) 81 r_box ((3 : Int32) * x1_8) ((3 : Int32) * x2_12) ((3 : Int32) * x3_16) r_20 hc) ⟨va_cnB 4 hts g_X3_search_X6_areTable rfl rfl rfl (hN.2 (RX3, 77, yX6_areTable, "KinForms") (by decide +kernel)) (hlk (.initialized RX6) (by decide +kernel)) (by decide +kernel) ⟨Nat.le_of_ble_eq_true rfl, Nat.le_of_ble_eq_true rfl⟩, hlk (.static yX6_areTable) (by decide +kernel), trivial⟩ ⟨rPk_blind, rPk_at hK (hP.sub (ws' := (tW1 cI (a 3) 81 r_box)) [3] rfl) hN⟩ rfl rfl hl.1 rfl (lv_room (Nat.le_of_ble_eq_true rfl)) dX3_search_187 ⟨Nat.zero_le _, Nat.zero_le _⟩) ?_
                          refine lv_if_eq (tgt := 206) hx hb dX3_search_190 (by decide) (fun c0 => ?_) (fun c0 => ?_)
                          · have hF := if_t hF c0
                            exact hk206 r_ties_17 r_best_18 r_bestRows_19 H locs ls hP hD hS (lv_sub hl [0, 1, 2, 3] rfl) hF
                          · have hF := if_f hF c0
                            refine lv_aload_n hx hb dX3_search_193 rfl (lv_at hl 0 rfl) ?_
                            refine lv_iconst (v := 3) hx hb dX3_search_194 (by decide) ?_
                            refine lv_iload_n hx hb dX3_search_195 rfl (lv_at hl 1 rfl) ?_
                            refine lv_imul hx hb dX3_search_196 ?_
                            refine lv_iconst (v := 3) hx hb dX3_search_197 (by decide) ?_
                            refine lv_iload_n hx hb dX3_search_198 rfl (lv_at hl 2 rfl) ?_
                            refine lv_imul hx hb dX3_search_199 ?_
                            refine lv_iconst (v := 3) hx hb dX3_search_200 (by decide) ?_
                            refine lv_iload_n hx hb dX3_search_201 rfl (lv_at hl 3 rfl) ?_
                            refine lv_imul hx hb dX3_search_202 ?_
                            obtain ⟨r_ties_21, r_best_22, r_bestRows_23, hc, hF⟩ := bd3_of hF
                            refine mc_v (va_runV (As := [.int ((3 : Int32) * x1_8), .int ((3 : Int32) * x2_12), .int ((3 : Int32) * x3_16)]) (rest := []) ⟨hx, hb, hml, hown, hts⟩ (c_X3_consider l dC dI cI h a fu H.size r_ties_17 r_six r_rows r_box r_worth r_image r_best_18 r_bestRows_19 ((3 : Int32) * x1_8) ((3 : Int32) * x2_12) ((3 : Int32) * x3_16) r_ties_21 r_best_22 r_bestRows_23 hc) (cwV 3 hts g_X3_search_X3_consider rfl rfl rfl (by decide +kernel) ⟨Nat.le_of_ble_eq_true rfl, Nat.le_of_ble_eq_true rfl⟩) ⟨mPk_blind, va_recv hK hP (ci := 3) (q0 := 0) rfl rfl, mPk_at hK hP hD hN⟩ rfl rfl hl.1 rfl (lv_room (Nat.le_of_ble_eq_true rfl)) dX3_search_203 ⟨Nat.zero_le _, Nat.zero_le _⟩) hS (fr_all hD hS hA) (fun H locs hP hD hS => ?_)
                            exact hk206 r_ties_21 r_best_22 r_bestRows_23 H locs ls hP hD hS (lv_sub hl [0, 1, 2, 3] rfl) hF
                exact hL138 fu (0 : Int32) r_ties_13 r_best_14 r_bestRows_15 H locs ls hP hD hS (lv_sub hl [1, 2, 3, 0] rfl) hF
        exact hL115 fu (0 : Int32) r_ties_9 r_best_10 r_bestRows_11 H locs ls hP hD hS (lv_sub hl [1, 2, 0] rfl) hF
  exact hL107 fu (0 : Int32) (0 : Int32) r_best_7 r_bestRows H locs ls hP hD hS (lv_sub hl [1, 0] rfl) hF
def fX3_settle_L47 (k83 : (Nat → Int32) → (Nat → Int32) → Option ((Int32) × (Nat → Int32) × (Nat → Int32) × (Nat → Int32) × (Nat → Int32) × (Nat → Int32) × (Nat → Int32))) (fu : Nat) : Nat → (Int32) → (Int32) → (Nat → Int32) → (Nat → Int32) → Option ((Int32) × (Nat → Int32) × (Nat → Int32) × (Nat → Int32) × (Nat → Int32) × (Nat → Int32) × (Nat → Int32))
  | 0, _, _, _, _ => none
  | n + 1, x2_8, x3_9, r_six_10, r_rows_11 => if x2_8 = 0 then ((k83 r_six_10 r_rows_11)) else (if (1000000 : Int32) ≤ x3_9 then ((k83 r_six_10 r_rows_11)) else (bd3 (fX3_shortenByOne fu r_six_10 r_rows_11) (fun (r_12 : Int32) (r_six_13 : Nat → Int32) (r_rows_14 : Nat → Int32) => nm (fun (s_20 : Int32) (r_six_21 : Nat → Int32) (r_rows_22 : Nat → Int32) => nm (x3_9 + (1 : Int32)) (fun (x3_23 : Int32) => (fX3_settle_L47 k83 fu n s_20 x3_23 r_six_21 r_rows_22))) (fun (k76 : (Int32) → (Nat → Int32) → (Nat → Int32) → Option ((Int32) × (Nat → Int32) × (Nat → Int32) × (Nat → Int32) × (Nat → Int32) × (Nat → Int32) × (Nat → Int32))) => nm (fun (r_six_18 : Nat → Int32) (r_rows_19 : Nat → Int32) => (k76 (1 : Int32) r_six_18 r_rows_19)) (fun (k71 : (Nat → Int32) → (Nat → Int32) → Option ((Int32) × (Nat → Int32) × (Nat → Int32) × (Nat → Int32) × (Nat → Int32) × (Nat → Int32) × (Nat → Int32))) => if r_12 = 0 then (bd3 (fX3_shortenByTwo fu r_six_13 r_rows_14) (fun (r_15 : Int32) (r_six_16 : Nat → Int32) (r_rows_17 : Nat → Int32) => if r_15 = 0 then ((k76 (0 : Int32) r_six_16 r_rows_17)) else ((k71 r_six_16 r_rows_17)))) else ((k71 r_six_13 r_rows_14)))))))
def fX3_settle_L14 (k43 : (Nat → Int32) → Option ((Int32) × (Nat → Int32) × (Nat → Int32) × (Nat → Int32) × (Nat → Int32) × (Nat → Int32) × (Nat → Int32))) : Nat → (Int32) → (Nat → Int32) → Option ((Int32) × (Nat → Int32) × (Nat → Int32) × (Nat → Int32) × (Nat → Int32) × (Nat → Int32) × (Nat → Int32))
  | 0, _, _ => none
  | n + 1, x2_2, r_rows_3 => if (9 : Int32) ≤ x2_2 then ((k43 r_rows_3)) else (nm (fun (s_4 : Int32) => if okI x2_2 9 then nm (upd r_rows_3 x2_2.toNatClampNeg s_4) (fun (r_rows_5 : Nat → Int32) => nm (x2_2 + (1 : Int32)) (fun (x2_6 : Int32) => (fX3_settle_L14 k43 n x2_6 r_rows_5))) else none) (fun (k36 : (Int32) → Option ((Int32) × (Nat → Int32) × (Nat → Int32) × (Nat → Int32) × (Nat → Int32) × (Nat → Int32) × (Nat → Int32))) => if (x2_2 - x2_2 / (4 : Int32) * (4 : Int32)) = 0 then ((k36 (1 : Int32))) else ((k36 (0 : Int32)))))
def fX3_settle (fu : Nat) (r_six : Nat → Int32) (r_rows : Nat → Int32) (r_box : Nat → Int32) (r_worth : Nat → Int32) (r_image : Nat → Int32) (r_best : Nat → Int32) (r_bestRows : Nat → Int32) (numbers : Nat → Int32)  : Option ((Int32) × (Nat → Int32) × (Nat → Int32) × (Nat → Int32) × (Nat → Int32) × (Nat → Int32) × (Nat → Int32)) :=
  nm (va_cpy numbers r_six 0 0 6) (fun (r_six_1 : Nat → Int32) => nm (fun (r_rows_7 : Nat → Int32) => nm (fun (r_six_24 : Nat → Int32) (r_rows_25 : Nat → Int32) => bd2 (fX3_fillBox fu r_six_24 r_rows_25 r_box r_worth r_image) (fun (r_worth_26 : Nat → Int32) (r_image_27 : Nat → Int32) => bd3 (fX3_search fu r_six_24 r_box r_worth_26 r_image_27 r_best r_bestRows) (fun (r_ties_28 : Int32) (r_best_29 : Nat → Int32) (r_bestRows_30 : Nat → Int32) => some (r_ties_28, r_six_24, r_rows_25, r_worth_26, r_image_27, r_best_29, r_bestRows_30)))) (fun (k83 : (Nat → Int32) → (Nat → Int32) → Option ((Int32) × (Nat → Int32) × (Nat → Int32) × (Nat → Int32) × (Nat → Int32) × (Nat → Int32) × (Nat → Int32))) => (fX3_settle_L47 k83 fu fu (1 : Int32) (0 : Int32) r_six_1 r_rows_7))) (fun (k43 : (Nat → Int32) → Option ((Int32) × (Nat → Int32) × (Nat → Int32) × (Nat → Int32) × (Nat → Int32) × (Nat → Int32) × (Nat → Int32))) => (fX3_settle_L14 k43 fu (0 : Int32) r_rows)))
def lkX3_settle : List Cond := [.methodLink RX3 31 arraycopyName, .native arraycopyName, .static arraycopyName, .initialized "java/lang/System", .constant RX3 37 (1000000), .fieldLink RX3 7 "KinForms$Reducer" "six" "[I", .fieldLink RX3 13 "KinForms$Reducer" "rows" "[I"]
def vX3_settle : List Cond := .code yX3_settle cX3_settle 4 none :: (lkX3_settle ++ (wsX30 ++ (wsV RX3 38 RX3 yX3_shortenByOne vX3_shortenByOne ++ (wsV RX3 42 RX3 yX3_shortenByTwo vX3_shortenByTwo ++ (wsV RX3 45 RX3 yX3_fillBox vX3_fillBox ++ (wsV RX3 48 RX3 yX3_search vX3_search ++ ([])))))))
theorem q_X3_settle : ∀ w ∈ vX3_settle, goodWord w = true := gd_cons rfl (gd_app (by decide +kernel) (gd_app q_wsX30 (gd_app (gd_V q_X3_shortenByOne) (gd_app (gd_V q_X3_shortenByTwo) (gd_app (gd_V q_X3_fillBox) (gd_app (gd_V q_X3_search) gd_nil))))))
theorem g_X3_settle_X3_shortenByOne : GoodIn vX3_settle (wsV RX3 38 RX3 yX3_shortenByOne vX3_shortenByOne) := gi_of (fun w h => List.mem_cons_of_mem _ (List.mem_append_right _ (List.mem_append_right _ (List.mem_append_left _ h)))) (gd_V q_X3_shortenByOne)
theorem g_X3_settle_X3_shortenByTwo : GoodIn vX3_settle (wsV RX3 42 RX3 yX3_shortenByTwo vX3_shortenByTwo) := gi_of (fun w h => List.mem_cons_of_mem _ (List.mem_append_right _ (List.mem_append_right _ (List.mem_append_right _ (List.mem_append_left _ h))))) (gd_V q_X3_shortenByTwo)
theorem g_X3_settle_X3_fillBox : GoodIn vX3_settle (wsV RX3 45 RX3 yX3_fillBox vX3_fillBox) := gi_of (fun w h => List.mem_cons_of_mem _ (List.mem_append_right _ (List.mem_append_right _ (List.mem_append_right _ (List.mem_append_right _ (List.mem_append_left _ h)))))) (gd_V q_X3_fillBox)
theorem g_X3_settle_X3_search : GoodIn vX3_settle (wsV RX3 48 RX3 yX3_search vX3_search) := gi_of (fun w h => List.mem_cons_of_mem _ (List.mem_append_right _ (List.mem_append_right _ (List.mem_append_right _ (List.mem_append_right _ (List.mem_append_right _ (List.mem_append_left _ h))))))) (gd_V q_X3_search)
abbrev rmX3_settle : Room := { frames := 4, cells := 0, slots := 0, locals := 94 }
set_option maxHeartbeats 4000000 in
set_option maxRecDepth 100000 in
theorem c_X3_settle (l : Launch) (dC : Nat → ClassId) (dI : Nat → Nat → Nat) (cI : ClassId) (h : Nat) (a : Nat → Nat) (b : Nat) (fu : Nat) (sz : Nat) (r_ties : Int32) (r_six : Nat → Int32) (r_rows : Nat → Int32) (r_box : Nat → Int32) (r_worth : Nat → Int32) (r_image : Nat → Int32) (r_best : Nat → Int32) (r_bestRows : Nat → Int32) (numbers : Nat → Int32)  (o_r_ties : Int32) (o_r_six : Nat → Int32) (o_r_rows : Nat → Int32) (o_r_worth : Nat → Int32) (o_r_image : Nat → Int32) (o_r_best : Nat → Int32) (o_r_bestRows : Nat → Int32) (hF : fX3_settle fu r_six r_rows r_box r_worth r_image r_best r_bestRows numbers = some (o_r_ties, o_r_six, o_r_rows, o_r_worth, o_r_image, o_r_best, o_r_bestRows)) : Met l yX3_settle vX3_settle rmX3_settle (va_Pc [.ref h, .ref b] (mPk (dC, dI) vwCl (rnW cI h a b r_ties r_six r_rows r_box r_worth r_image r_best r_bestRows numbers) [(cI, .int)] sz)) (va_Qv (fun (_ : Unit) => True) (mPo (dC, dI) vwCl (rnW cI h a b o_r_ties o_r_six o_r_rows r_box o_r_worth o_r_image o_r_best o_r_bestRows numbers) [(cI, .int)] (va_A (rnW cI h a b r_ties r_six r_rows r_box r_worth r_image r_best r_bestRows numbers) sz)) (va_A (rnW cI h a b r_ties r_six r_rows r_box r_worth r_image r_best r_bestRows numbers) sz)) 0 0 (va_A (rnW cI h a b r_ties r_six r_rows r_box r_worth r_image r_best r_bestRows numbers) sz) := by
  refine Met.ofW (cc := cX3_settle) (maxL := 4) (ret := none) (by decide) rfl ?_
  intro p e s m args below meth c s₁ B hml hv
  obtain ⟨rfl, hsz, hP, hK, hD0, hN⟩ := hv
  have hx := B.exec
  have hb := B.bytes
  have hr := B.returns
  have hts := atoms_spec (ws := vX3_settle) B.pre
  have hlk : ∀ w ∈ lkX3_settle, w.before _ s = true := fun w h => hts w (List.mem_cons_of_mem _ (List.mem_append_left _ h))
  have hown : s.vm.findClass RX3 = some m.cls := findClass_of_methodNamed B.named
  have hlocks := B.notSynchronized
  subst hsz
  have hD := hD0.self (sz := s.heap.size)
  generalize hAe : va_A (rnW cI h a b r_ties r_six r_rows r_box r_worth r_image r_best r_bestRows numbers) s.heap.size = A at hD ⊢
  have hA : ∀ q : Nat, s.heap.size ≤ q → A q := fun q h => by rw [← hAe]; exact Or.inr h
  have hS : va_S A s.heap s.heap [] := va_S.rf
  have hinX3 : ∀ w ∈ wsX30, w ∈ vX3_settle := fun w h => List.mem_cons_of_mem _ (List.mem_append_right _ (List.mem_append_left _ h))
  have hf_7 := hlk (.fieldLink RX3 7 "KinForms$Reducer" "six" "[I") (by decide +kernel)
  have hf_13 := hlk (.fieldLink RX3 13 "KinForms$Reducer" "rows" "[I") (by decide +kernel)
  have hl := lv_entry ([.ref h, .ref b] : List Value) (n := 4) (Nat.le_of_ble_eq_true rfl)
  rw [lg_entry_eq]
  generalize (lg_sl ([.ref h, .ref b] : List Value) ++ List.replicate (4 - (lg_sl ([.ref h, .ref b] : List Value)).length) Slot.unset).toArray = ls at hl ⊢
  have hl : lv_has ls 4 [(0, .ref h), (1, .ref b)] := hl
  unfold fX3_settle at hF
  refine W_Q (fun Q hQ => ?_)
  have hP : va_P (dC, dI) vwCl (rnW cI h a b r_ties r_six r_rows r_box r_worth r_image r_best r_bestRows numbers) s.heap := hP
  refine W_HL (fun H locs eH eL => ?_)
  rw [← eH] at hP
  have hS : va_S A s.heap H locs := by rw [eH, eL]; exact hS
  refine lv_aload_n hx hb dX3_settle_0 rfl (lv_at hl 1 rfl) ?_
  refine lv_iconst (v := 0) hx hb dX3_settle_1 (by decide) ?_
  refine lv_aload_n hx hb dX3_settle_2 rfl (lv_at hl 0 rfl) ?_
  refine va_get (D := (dC, dI)) (ci := 3) (v := .ref (a 1)) (C := RX3) (T := TX3) (N := 8) hx hb hts hinX3 hown hK hP 0 rfl rfl 0 (by decide) hf_7 (fun _ h9 => h9) rfl dX3_settle_3 ?_
  refine lv_iconst (v := 0) hx hb dX3_settle_6 (by decide) ?_
  refine lv_bipush (v := (6)) hx hb dX3_settle_7 (by decide) ?_
  obtain ⟨r_six_1, e_r_six_1, hF⟩ := nm_ex hF
  refine kc_copy (N := 6) (SP := 0) (DP := 0) (g1 := r_six_1) hx hb (hml.trans hl.1.symm) hown (hlk (.methodLink RX3 31 arraycopyName) (by decide +kernel)) (hlk (.native arraycopyName) (by decide +kernel)) (hlk (.static arraycopyName) (by decide +kernel)) (hlk (.initialized "java/lang/System") (by decide +kernel)) hK hP hD hS 8 1 0 0 rfl rfl rfl rfl (by decide) (by decide) (by decide) (by decide) (by decide) (by decide) (by decide) (by decide) (Nat.le_of_ble_eq_true rfl) (Nat.le_of_ble_eq_true rfl) dX3_settle_9 e_r_six_1 (fun H locs hP hD hS => ?_)
  have hP : va_P (dC, dI) vwCl (rnW cI h a b r_ties r_six_1 r_rows r_box r_worth r_image r_best r_bestRows numbers) H := hP
  have hD : va_D A (rnW cI h a b r_ties r_six_1 r_rows r_box r_worth r_image r_best r_bestRows numbers) := hD
  refine lv_iconst (v := 0) hx hb dX3_settle_12 (by decide) ?_
  refine lv_istore_n (lv' := [(2, .int (0 : Int32)), (0, .ref h), (1, .ref b)]) hx hb dX3_settle_13 rfl hl (by decide) rfl (fun ls hl => ?_)
  obtain ⟨k43, e_k43, hF⟩ := nm_ex hF
  have hk43 : ∀ (r_rows_7 : Nat → Int32) (H : Heap) (locs : List Loc) (ls : Array Slot), va_P (dC, dI) vwCl (rnW cI h a b r_ties r_six_1 r_rows_7 r_box r_worth r_image r_best r_bestRows numbers) H → va_D A (rnW cI h a b r_ties r_six_1 r_rows_7 r_box r_worth r_image r_best r_bestRows numbers) → va_S A s.heap H locs → lv_has ls 4 [(0, .ref h)] → k43 r_rows_7 = some (o_r_ties, o_r_six, o_r_rows, o_r_worth, o_r_image, o_r_best, o_r_bestRows) → W p l e rmX3_settle s m ([.ref h, .ref b] : List Value).toArray below meth c H locs 0 0 Q (F0 m 43 ls []) := by
    intro r_rows_7 H locs ls hP hD hS hl hF
    have hF := ka1 e_k43 hF
    refine lv_iconst (v := 1) hx hb dX3_settle_43 (by decide) ?_
    refine lv_istore_n (lv' := [(2, .int (1 : Int32)), (0, .ref h)]) hx hb dX3_settle_44 rfl hl (by decide) rfl (fun ls hl => ?_)
    refine lv_iconst (v := 0) hx hb dX3_settle_45 (by decide) ?_
    refine lv_istore_n (lv' := [(3, .int (0 : Int32)), (2, .int (1 : Int32)), (0, .ref h)]) hx hb dX3_settle_46 rfl hl (by decide) rfl (fun ls hl => ?_)
    obtain ⟨k83, e_k83, hF⟩ := nm_ex hF
    have hk83 : ∀ (r_six_24 : Nat → Int32) (r_rows_25 : Nat → Int32) (H : Heap) (locs : List Loc) (ls : Array Slot), va_P (dC, dI) vwCl (rnW cI h a b r_ties r_six_24 r_rows_25 r_box r_worth r_image r_best r_bestRows numbers) H → va_D A (rnW cI h a b r_ties r_six_24 r_rows_25 r_box r_worth r_image r_best r_bestRows numbers) → va_S A s.heap H locs → lv_has ls 4 [(0, .ref h)] → k83 r_six_24 r_rows_25 = some (o_r_ties, o_r_six, o_r_rows, o_r_worth, o_r_image, o_r_best, o_r_bestRows) → W p l e rmX3_settle s m ([.ref h, .ref b] : List Value).toArray below meth c H locs 0 0 Q (F0 m 83 ls []) := by
      intro r_six_24 r_rows_25 H locs ls hP hD hS hl hF
      have hF := ka2 e_k83 hF
      refine lv_aload_n hx hb dX3_settle_83 rfl (lv_at hl 0 rfl) ?_
      obtain ⟨r_worth_26, r_image_27, hc, hF⟩ := bd2_of hF
      refine sc_v (wf := (rnW cI h a b r_ties r_six_24 r_rows_25 r_box r_worth_26 r_image_27 r_best r_bestRows numbers)) (va_runV (As := []) (rest := []) ⟨hx, hb, hml, hown, hts⟩ (c_X3_fillBox l dC dI cI h a fu H.size r_ties r_six_24 r_rows_25 r_box r_worth r_image r_best r_bestRows  r_worth_26 r_image_27 hc) (cwV 0 hts g_X3_settle_X3_fillBox rfl rfl rfl (by decide +kernel) ⟨Nat.le_of_ble_eq_true rfl, Nat.le_of_ble_eq_true rfl⟩) ⟨mPk_blind, va_recv hK hP (ci := 3) (q0 := 0) rfl rfl, mPk_at hK (hP.sub (ws' := (rW cI h a r_ties r_six_24 r_rows_25 r_box r_worth r_image r_best r_bestRows)) [0, 1, 2, 3, 4, 5, 6, 7] rfl) (hD.sub (ws' := (rW cI h a r_ties r_six_24 r_rows_25 r_box r_worth r_image r_best r_bestRows)) [0, 1, 2, 3, 4, 5, 6, 7] (by decide) rfl) hN⟩ rfl rfl hl.1 rfl (lv_room (Nat.le_of_ble_eq_true rfl)) dX3_settle_84 ⟨Nat.zero_le _, Nat.zero_le _⟩) hP hD hS hA [0, 1, 2, 3, 4, 5, 6, 7] [8] rfl rfl rfl rfl rfl (by decide) (fun H locs hP hD hS => ?_)
      refine lv_aload_n hx hb dX3_settle_87 rfl (lv_at hl 0 rfl) ?_
      obtain ⟨r_ties_28, r_best_29, r_bestRows_30, hc, hF⟩ := bd3_of hF
      refine sc_v (wf := (rnW cI h a b r_ties_28 r_six_24 r_rows_25 r_box r_worth_26 r_image_27 r_best_29 r_bestRows_30 numbers)) (va_runV (As := []) (rest := []) ⟨hx, hb, hml, hown, hts⟩ (c_X3_search l dC dI cI h a fu H.size r_ties r_six_24 r_rows_25 r_box r_worth_26 r_image_27 r_best r_bestRows  r_ties_28 r_best_29 r_bestRows_30 hc) (cwV 0 hts g_X3_settle_X3_search rfl rfl rfl (by decide +kernel) ⟨Nat.le_of_ble_eq_true rfl, Nat.le_of_ble_eq_true rfl⟩) ⟨mPk_blind, va_recv hK hP (ci := 3) (q0 := 0) rfl rfl, mPk_at hK (hP.sub (ws' := (rW cI h a r_ties r_six_24 r_rows_25 r_box r_worth_26 r_image_27 r_best r_bestRows)) [0, 1, 2, 3, 4, 5, 6, 7] rfl) (hD.sub (ws' := (rW cI h a r_ties r_six_24 r_rows_25 r_box r_worth_26 r_image_27 r_best r_bestRows)) [0, 1, 2, 3, 4, 5, 6, 7] (by decide) rfl) hN⟩ rfl rfl hl.1 rfl (lv_room (Nat.le_of_ble_eq_true rfl)) dX3_settle_88 ⟨Nat.zero_le _, Nat.zero_le _⟩) hP hD hS hA [0, 1, 2, 3, 4, 5, 6, 7] [8] rfl rfl rfl rfl rfl (by decide) (fun H locs hP hD hS => ?_)
      obtain ⟨q0, q1, q2, q3, q4, q5, q6⟩ := sm7 hF
      have hP : va_P (dC, dI) vwCl (rnW cI h a b o_r_ties o_r_six o_r_rows r_box o_r_worth o_r_image o_r_best o_r_bestRows numbers) H := by rw [← q0, ← q1, ← q2, ← q3, ← q4, ← q5, ← q6]; exact hP
      have hD : va_D A (rnW cI h a b o_r_ties o_r_six o_r_rows r_box o_r_worth o_r_image o_r_best o_r_bestRows numbers) := by rw [← q0, ← q1, ← q2, ← q3, ← q4, ← q5, ← q6]; exact hD
      refine W_Qe hQ ?_
      exact W.vret hx hb hr (fun t ht hW => ⟨⟨(), rfl, trivial, by rw [ht]; exact hP, va_K.moved hW.alike hK, hD⟩, hS.F ht⟩) hS.2.2 dX3_settle_91
    clear e_k83
    have hL47 : ∀ n : Nat, ∀ (x2_8 : Int32) (x3_9 : Int32) (r_six_10 : Nat → Int32) (r_rows_11 : Nat → Int32) (H : Heap) (locs : List Loc) (ls : Array Slot), va_P (dC, dI) vwCl (rnW cI h a b r_ties r_six_10 r_rows_11 r_box r_worth r_image r_best r_bestRows numbers) H → va_D A (rnW cI h a b r_ties r_six_10 r_rows_11 r_box r_worth r_image r_best r_bestRows numbers) → va_S A s.heap H locs → lv_has ls 4 [(0, .ref h), (2, .int x2_8), (3, .int x3_9)] → fX3_settle_L47 k83 fu n x2_8 x3_9 r_six_10 r_rows_11 = some (o_r_ties, o_r_six, o_r_rows, o_r_worth, o_r_image, o_r_best, o_r_bestRows) → W p l e rmX3_settle s m ([.ref h, .ref b] : List Value).toArray below meth c H locs 0 0 Q (F0 m 47 ls []) := by
      intro n
      induction n with
      | zero => intro x2_8 x3_9 r_six_10 r_rows_11 H locs ls hP hD hS hl hF; rw [fX3_settle_L47] at hF; cases hF
      | succ n ih47 =>
        intro x2_8 x3_9 r_six_10 r_rows_11 H locs ls hP hD hS hl hF
        rw [fX3_settle_L47] at hF
        refine lv_iload_n hx hb dX3_settle_47 rfl (lv_at hl 1 rfl) ?_
        refine lv_if_eq (tgt := 83) hx hb dX3_settle_48 (by decide) (fun c0 => ?_) (fun c0 => ?_)
        · have hF := if_t hF c0
          exact hk83 r_six_10 r_rows_11 H locs ls hP hD hS (lv_sub hl [0] rfl) hF
        · have hF := if_f hF c0
          refine lv_iload_n hx hb dX3_settle_51 rfl (lv_at hl 2 rfl) ?_
          refine lv_ldc (v := (1000000)) hx hb hown (hlk (.constant RX3 37 (1000000)) (by decide +kernel)) dX3_settle_52 ?_
          refine lv_icmp_ge (tgt := 83) hx hb dX3_settle_54 (by decide) (fun c0 => ?_) (fun c0 => ?_)
          · have hF := if_t hF c0
            exact hk83 r_six_10 r_rows_11 H locs ls hP hD hS (lv_sub hl [0] rfl) hF
          · have hF := if_f hF c0
            refine lv_aload_n hx hb dX3_settle_57 rfl (lv_at hl 0 rfl) ?_
            obtain ⟨r_12, r_six_13, r_rows_14, hc, hF⟩ := bd3_of hF
            refine sc_i (wf := (rnW cI h a b r_ties r_six_13 r_rows_14 r_box r_worth r_image r_best r_bestRows numbers)) (va_runV (As := []) (rest := []) ⟨hx, hb, hml, hown, hts⟩ (c_X3_shortenByOne l dC dI cI h a fu H.size r_ties r_six_10 r_rows_11 r_box r_worth r_image r_best r_bestRows  r_12 r_six_13 r_rows_14 hc) (cwV 0 hts g_X3_settle_X3_shortenByOne rfl rfl rfl (by decide +kernel) ⟨Nat.le_of_ble_eq_true rfl, Nat.le_of_ble_eq_true rfl⟩) ⟨mPk_blind, va_recv hK hP (ci := 3) (q0 := 0) rfl rfl, mPk_at hK (hP.sub (ws' := (rW cI h a r_ties r_six_10 r_rows_11 r_box r_worth r_image r_best r_bestRows)) [0, 1, 2, 3, 4, 5, 6, 7] rfl) (hD.sub (ws' := (rW cI h a r_ties r_six_10 r_rows_11 r_box r_worth r_image r_best r_bestRows)) [0, 1, 2, 3, 4, 5, 6, 7] (by decide) rfl) hN⟩ rfl rfl hl.1 rfl (lv_room (Nat.le_of_ble_eq_true rfl)) dX3_settle_58 ⟨Nat.zero_le _, Nat.zero_le _⟩) hP hD hS hA [0, 1, 2, 3, 4, 5, 6, 7] [8] rfl rfl rfl rfl rfl (by decide) (fun H locs hP hD hS => ?_)
            obtain ⟨k76, e_k76, hF⟩ := nm_ex hF
            have hk76 : ∀ (s_20 : Int32) (r_six_21 : Nat → Int32) (r_rows_22 : Nat → Int32) (H : Heap) (locs : List Loc) (ls : Array Slot), va_P (dC, dI) vwCl (rnW cI h a b r_ties r_six_21 r_rows_22 r_box r_worth r_image r_best r_bestRows numbers) H → va_D A (rnW cI h a b r_ties r_six_21 r_rows_22 r_box r_worth r_image r_best r_bestRows numbers) → va_S A s.heap H locs → lv_has ls 4 [(0, .ref h), (3, .int x3_9)] → k76 s_20 r_six_21 r_rows_22 = some (o_r_ties, o_r_six, o_r_rows, o_r_worth, o_r_image, o_r_best, o_r_bestRows) → W p l e rmX3_settle s m ([.ref h, .ref b] : List Value).toArray below meth c H locs 0 0 Q (F0 m 76 ls [.int s_20]) := by
              intro s_20 r_six_21 r_rows_22 H locs ls hP hD hS hl hF
              have hF := ka3 e_k76 hF
              refine lv_istore_n (lv' := [(2, .int s_20), (0, .ref h), (3, .int x3_9)]) hx hb dX3_settle_76 rfl hl (by decide) rfl (fun ls hl => ?_)
              obtain ⟨x3_23, e_x3_23, hF⟩ := nm_ex hF
              refine lv_iinc (v := x3_23) (lv' := [(3, .int x3_23), (2, .int s_20), (0, .ref h)]) hx hb dX3_settle_77 hl (k := 2) rfl (by rw [e_x3_23]; rfl) (by decide) rfl (fun ls hl => ?_)
              refine lv_goto (tgt := 47) hx hb dX3_settle_80 (by decide) ?_
              exact ih47 s_20 x3_23 r_six_21 r_rows_22 H locs ls hP hD hS (lv_sub hl [2, 1, 0] rfl) hF
            clear e_k76
            obtain ⟨k71, e_k71, hF⟩ := nm_ex hF
            have hk71 : ∀ (r_six_18 : Nat → Int32) (r_rows_19 : Nat → Int32) (H : Heap) (locs : List Loc) (ls : Array Slot), va_P (dC, dI) vwCl (rnW cI h a b r_ties r_six_18 r_rows_19 r_box r_worth r_image r_best r_bestRows numbers) H → va_D A (rnW cI h a b r_ties r_six_18 r_rows_19 r_box r_worth r_image r_best r_bestRows numbers) → va_S A s.heap H locs → lv_has ls 4 [(0, .ref h), (3, .int x3_9)] → k71 r_six_18 r_rows_19 = some (o_r_ties, o_r_six, o_r_rows, o_r_worth, o_r_image, o_r_best, o_r_bestRows) → W p l e rmX3_settle s m ([.ref h, .ref b] : List Value).toArray below meth c H locs 0 0 Q (F0 m 71 ls []) := by
              intro r_six_18 r_rows_19 H locs ls hP hD hS hl hF
              have hF := ka2 e_k71 hF
              refine lv_iconst (v := 1) hx hb dX3_settle_71 (by decide) ?_
              refine lv_goto (tgt := 76) hx hb dX3_settle_72 (by decide) ?_
              exact hk76 (1 : Int32) r_six_18 r_rows_19 H locs ls hP hD hS (lv_sub hl [0, 1] rfl) hF
            clear e_k71
            refine lv_if_ne (tgt := 71) hx hb dX3_settle_61 (by decide) (fun c0 => ?_) (fun c0 => ?_)
            · have hF := if_f hF c0
              exact hk71 r_six_13 r_rows_14 H locs ls hP hD hS (lv_sub hl [0, 2] rfl) hF
            · have hF := if_t hF c0
              refine lv_aload_n hx hb dX3_settle_64 rfl (lv_at hl 0 rfl) ?_
              obtain ⟨r_15, r_six_16, r_rows_17, hc, hF⟩ := bd3_of hF
              refine sc_i (wf := (rnW cI h a b r_ties r_six_16 r_rows_17 r_box r_worth r_image r_best r_bestRows numbers)) (va_runV (As := []) (rest := []) ⟨hx, hb, hml, hown, hts⟩ (c_X3_shortenByTwo l dC dI cI h a fu H.size r_ties r_six_13 r_rows_14 r_box r_worth r_image r_best r_bestRows  r_15 r_six_16 r_rows_17 hc) (cwV 0 hts g_X3_settle_X3_shortenByTwo rfl rfl rfl (by decide +kernel) ⟨Nat.le_of_ble_eq_true rfl, Nat.le_of_ble_eq_true rfl⟩) ⟨mPk_blind, va_recv hK hP (ci := 3) (q0 := 0) rfl rfl, mPk_at hK (hP.sub (ws' := (rW cI h a r_ties r_six_13 r_rows_14 r_box r_worth r_image r_best r_bestRows)) [0, 1, 2, 3, 4, 5, 6, 7] rfl) (hD.sub (ws' := (rW cI h a r_ties r_six_13 r_rows_14 r_box r_worth r_image r_best r_bestRows)) [0, 1, 2, 3, 4, 5, 6, 7] (by decide) rfl) hN⟩ rfl rfl hl.1 rfl (lv_room (Nat.le_of_ble_eq_true rfl)) dX3_settle_65 ⟨Nat.zero_le _, Nat.zero_le _⟩) hP hD hS hA [0, 1, 2, 3, 4, 5, 6, 7] [8] rfl rfl rfl rfl rfl (by decide) (fun H locs hP hD hS => ?_)
              refine lv_if_eq (tgt := 75) hx hb dX3_settle_68 (by decide) (fun c0 => ?_) (fun c0 => ?_)
              · have hF := if_t hF c0
                refine lv_iconst (v := 0) hx hb dX3_settle_75 (by decide) ?_
                exact hk76 (0 : Int32) r_six_16 r_rows_17 H locs ls hP hD hS (lv_sub hl [0, 2] rfl) hF
              · have hF := if_f hF c0
                exact hk71 r_six_16 r_rows_17 H locs ls hP hD hS (lv_sub hl [0, 2] rfl) hF
    exact hL47 fu (1 : Int32) (0 : Int32) r_six_1 r_rows_7 H locs ls hP hD hS (lv_sub hl [2, 1, 0] rfl) hF
  clear e_k43
  have hL14 : ∀ n : Nat, ∀ (x2_2 : Int32) (r_rows_3 : Nat → Int32) (H : Heap) (locs : List Loc) (ls : Array Slot), va_P (dC, dI) vwCl (rnW cI h a b r_ties r_six_1 r_rows_3 r_box r_worth r_image r_best r_bestRows numbers) H → va_D A (rnW cI h a b r_ties r_six_1 r_rows_3 r_box r_worth r_image r_best r_bestRows numbers) → va_S A s.heap H locs → lv_has ls 4 [(0, .ref h), (2, .int x2_2)] → fX3_settle_L14 k43 n x2_2 r_rows_3 = some (o_r_ties, o_r_six, o_r_rows, o_r_worth, o_r_image, o_r_best, o_r_bestRows) → W p l e rmX3_settle s m ([.ref h, .ref b] : List Value).toArray below meth c H locs 0 0 Q (F0 m 14 ls []) := by
    intro n
    induction n with
    | zero => intro x2_2 r_rows_3 H locs ls hP hD hS hl hF; rw [fX3_settle_L14] at hF; cases hF
    | succ n ih14 =>
      intro x2_2 r_rows_3 H locs ls hP hD hS hl hF
      rw [fX3_settle_L14] at hF
      refine lv_iload_n hx hb dX3_settle_14 rfl (lv_at hl 1 rfl) ?_
      refine lv_bipush (v := (9)) hx hb dX3_settle_15 (by decide) ?_
      refine lv_icmp_ge (tgt := 43) hx hb dX3_settle_17 (by decide) (fun c0 => ?_) (fun c0 => ?_)
      · have hF := if_t hF c0
        exact hk43 r_rows_3 H locs ls hP hD hS (lv_sub hl [0] rfl) hF
      · have hF := if_f hF c0
        refine lv_aload_n hx hb dX3_settle_20 rfl (lv_at hl 0 rfl) ?_
        refine va_get (D := (dC, dI)) (ci := 3) (v := .ref (a 2)) (C := RX3) (T := TX3) (N := 8) hx hb hts hinX3 hown hK hP 0 rfl rfl 1 (by decide) hf_13 (fun _ h9 => h9) rfl dX3_settle_21 ?_
        refine lv_iload_n hx hb dX3_settle_24 rfl (lv_at hl 1 rfl) ?_
        refine lv_iload_n hx hb dX3_settle_25 rfl (lv_at hl 1 rfl) ?_
        refine lv_iconst (v := 4) hx hb dX3_settle_26 (by decide) ?_
        refine lv_irem hx hb dX3_settle_27 (by decide) ?_
        obtain ⟨k36, e_k36, hF⟩ := nm_ex hF
        have hk36 : ∀ (s_4 : Int32) (H : Heap) (locs : List Loc) (ls : Array Slot), va_P (dC, dI) vwCl (rnW cI h a b r_ties r_six_1 r_rows_3 r_box r_worth r_image r_best r_bestRows numbers) H → va_D A (rnW cI h a b r_ties r_six_1 r_rows_3 r_box r_worth r_image r_best r_bestRows numbers) → va_S A s.heap H locs → lv_has ls 4 [(0, .ref h), (2, .int x2_2)] → k36 s_4 = some (o_r_ties, o_r_six, o_r_rows, o_r_worth, o_r_image, o_r_best, o_r_bestRows) → W p l e rmX3_settle s m ([.ref h, .ref b] : List Value).toArray below meth c H locs 0 0 Q (F0 m 36 ls [.int s_4, .int x2_2, .ref (a 2)]) := by
          intro s_4 H locs ls hP hD hS hl hF
          have hF := ka1 e_k36 hF
          obtain ⟨hi, hF⟩ := ck_of hF
          obtain ⟨r_rows_5, e_r_rows_5, hF⟩ := nm_ex hF
          refine kc_iast (j := x2_2.toNatClampNeg) (g := r_rows_5) hx hb hK hP hD hS 2 0 rfl rfl rfl hi dX3_settle_36 e_r_rows_5 (fun H locs hP hD hS => ?_)
          have hP : va_P (dC, dI) vwCl (rnW cI h a b r_ties r_six_1 r_rows_5 r_box r_worth r_image r_best r_bestRows numbers) H := hP
          have hD : va_D A (rnW cI h a b r_ties r_six_1 r_rows_5 r_box r_worth r_image r_best r_bestRows numbers) := hD
          obtain ⟨x2_6, e_x2_6, hF⟩ := nm_ex hF
          refine lv_iinc (v := x2_6) (lv' := [(2, .int x2_6), (0, .ref h)]) hx hb dX3_settle_37 hl (k := 1) rfl (by rw [e_x2_6]; rfl) (by decide) rfl (fun ls hl => ?_)
          refine lv_goto (tgt := 14) hx hb dX3_settle_40 (by decide) ?_
          exact ih14 x2_6 r_rows_5 H locs ls hP hD hS (lv_sub hl [1, 0] rfl) hF
        clear e_k36
        refine lv_if_ne (tgt := 35) hx hb dX3_settle_28 (by decide) (fun c0 => ?_) (fun c0 => ?_)
        · have hF := if_f hF c0
          refine lv_iconst (v := 0) hx hb dX3_settle_35 (by decide) ?_
          exact hk36 (0 : Int32) H locs ls hP hD hS (lv_sub hl [0, 1] rfl) hF
        · have hF := if_t hF c0
          refine lv_iconst (v := 1) hx hb dX3_settle_31 (by decide) ?_
          refine lv_goto (tgt := 36) hx hb dX3_settle_32 (by decide) ?_
          exact hk36 (1 : Int32) H locs ls hP hD hS (lv_sub hl [0, 1] rfl) hF
  exact hL14 fu (0 : Int32) r_rows H locs ls hP hD hS (lv_sub hl [1, 0] rfl) hF
