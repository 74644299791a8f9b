def fX3_init_L62  : Nat → (Int32) → (Nat → Int32) → Option ((Nat → Int32))
  | 0, _, _ => none
  | n + 1, x1_1, r_box_2 => if (27 : Int32) ≤ x1_1 then (some r_box_2) else (nm ((3 : Int32) * x1_1) (fun (v_3 : Int32) => if okI v_3 81 then nm (upd r_box_2 v_3.toNatClampNeg ((x1_1 / (9 : Int32)) - (1 : Int32))) (fun (r_box_4 : Nat → Int32) => nm (x1_1 / (3 : Int32)) (fun (v_5 : Int32) => nm (((3 : Int32) * x1_1) + (1 : Int32)) (fun (v_6 : Int32) => if okI v_6 81 then nm (upd r_box_4 v_6.toNatClampNeg ((v_5 - v_5 / (3 : Int32) * (3 : Int32)) - (1 : Int32))) (fun (r_box_7 : Nat → Int32) => nm (((3 : Int32) * x1_1) + (2 : Int32)) (fun (v_8 : Int32) => if okI v_8 81 then nm (upd r_box_7 v_8.toNatClampNeg ((x1_1 - x1_1 / (3 : Int32) * (3 : Int32)) - (1 : Int32))) (fun (r_box_9 : Nat → Int32) => nm (x1_1 + (1 : Int32)) (fun (x1_10 : Int32) => (fX3_init_L62 n x1_10 r_box_9))) else none)) else none))) else none))
def fX3_init (fu : Nat) : Option ((Nat → Int32)) :=
  (fX3_init_L62 fu (0 : Int32) (fun _ => 0))
def lkX3_init : List Cond := [.methodLink RX3 1 objectInit, .instanceMethod objectInit, .code objectInit ⟨#[0xb1]⟩ 1 none, .arrayClass .int, .fieldLink RX3 7 "KinForms$Reducer" "six" "[I", .fieldLink RX3 13 "KinForms$Reducer" "rows" "[I", .fieldLink RX3 16 "KinForms$Reducer" "box" "[I", .fieldLink RX3 19 "KinForms$Reducer" "worth" "[I", .fieldLink RX3 22 "KinForms$Reducer" "image" "[I", .fieldLink RX3 25 "KinForms$Reducer" "best" "[I", .fieldLink RX3 28 "KinForms$Reducer" "bestRows" "[I"]
def vX3_init : List Cond := .code yX3_init cX3_init 2 none :: (lkX3_init ++ (wsX30 ++ ([])))
theorem q_X3_init : ∀ w ∈ vX3_init, goodWord w = true := gd_cons rfl (gd_app (by decide +kernel) (gd_app q_wsX30 gd_nil))
abbrev rmX3_init : Room := { frames := 1, cells := 7, slots := 219, locals := 20 }
set_option maxHeartbeats 4000000 in
set_option maxRecDepth 100000 in
theorem c_X3_init (l : Launch) (dC : Nat → ClassId) (dI : Nat → Nat → Nat) (cI : ClassId) (h sz : Nat) (fu : Nat) (o_r_box : Nat → Int32) (hF : fX3_init fu = some o_r_box) : Met l yX3_init vX3_init rmX3_init (va_Pc [.ref h] (mPk (dC, dI) vwCl [(h, .inr (3, [.null, .null, .null, .null, .null, .null, .null, .int 0]))] [(cI, .int)] sz)) (va_Qv (fun (_ : Nat → Nat) => True) (fun u t => va_P (dC, dI) vwCl (rW cI h u (0 : Int32) (fun _ => 0) (fun _ => 0) o_r_box (fun _ => 0) (fun _ => 0) (fun _ => 0) (fun _ => 0)) t.heap ∧ va_K (dC, dI) vwCl [(cI, .int)] t ∧ va_D (va_A [(h, .inr (3, [.null, .null, .null, .null, .null, .null, .null, .int 0]))] sz) (rW cI h u (0 : Int32) (fun _ => 0) (fun _ => 0) o_r_box (fun _ => 0) (fun _ => 0) (fun _ => 0) (fun _ => 0))) (va_A [(h, .inr (3, [.null, .null, .null, .null, .null, .null, .null, .int 0]))] sz)) 7 219 (va_A [(h, .inr (3, [.null, .null, .null, .null, .null, .null, .null, .int 0]))] sz) := by
  refine Met.ofW (cc := cX3_init) (maxL := 2) (ret := none) (by decide) rfl ?_
  intro p e s m args below meth c s₁ B hml hv
  obtain ⟨rfl, hsz, hP, hK, hD0, hN⟩ := hv
  have hx := B.exec
  have hb := B.bytes
  have hr := B.returns
  have hts := atoms_spec (ws := vX3_init) B.pre
  have hlk : ∀ w ∈ lkX3_init, w.before _ s = true := fun w h => hts w (List.mem_cons_of_mem _ (List.mem_append_left _ h))
  have hown : s.vm.findClass RX3 = some m.cls := findClass_of_methodNamed B.named
  have hlocks := B.notSynchronized
  have hinit : meth.name = "<init>" := (name_of_methodNamed B.named B.method).1
  subst hsz
  have hD := hD0.self (sz := s.heap.size)
  generalize hAe : va_A [(h, .inr (3, [.null, .null, .null, .null, .null, .null, .null, .int 0]))] s.heap.size = A at hD ⊢
  have hA : ∀ q : Nat, s.heap.size ≤ q → A q := fun q h => by rw [← hAe]; exact Or.inr h
  have hS : va_S A s.heap s.heap [] := va_S.rf
  have hinX3 : ∀ w ∈ wsX30, w ∈ vX3_init := fun w h => List.mem_cons_of_mem _ (List.mem_append_right _ (List.mem_append_left _ h))
  have hl := lv_entry ([.ref h] : List Value) (n := 2) (Nat.le_of_ble_eq_true rfl)
  rw [lg_entry_eq]
  generalize (lg_sl ([.ref h] : List Value) ++ List.replicate (2 - (lg_sl ([.ref h] : List Value)).length) Slot.unset).toArray = ls at hl ⊢
  have hl : lv_has ls 2 [(0, .ref h)] := hl
  have hP : va_P (dC, dI) vwCl [(h, .inr (3, [.null, .null, .null, .null, .null, .null, .null, .int 0]))] s.heap := hP
  refine W_HL (fun H locs eH eL => ?_)
  rw [← eH] at hP
  have hS : va_S A s.heap H locs := by rw [eH, eL]; exact hS
  refine lv_aload_n hx hb dX3_init_0 rfl (lv_at hl 0 rfl) ?_
  refine W.objInit hx hb hown (hlk (.methodLink RX3 1 objectInit) (by decide +kernel)) (hlk (.instanceMethod objectInit) (by decide +kernel)) (hlk _ (List.mem_of_getElem? (i := 2) rfl)) rfl (by rw [hml]; exact hl.1) rfl dX3_init_1 (Nat.le_of_ble_eq_true rfl) (Nat.le_of_ble_eq_true rfl) ?_
  refine W.eq (g2 := F0 m 4 ls []) rfl ?_
  refine lv_aload_n hx hb dX3_init_4 rfl (lv_at hl 0 rfl) ?_
  refine lv_bipush (v := 6) hx hb dX3_init_5 (by decide) ?_
  refine kn_int hx hb (hlk (.arrayClass .int) (by decide +kernel)) hK hP hD hS hA 0 rfl (N' := 6) (by decide) (by decide) (by decide) (Nat.le_of_ble_eq_true rfl) (Nat.le_of_ble_eq_true rfl) dX3_init_7 (fun q7 H hP hD hS => ?_)
  have hP : va_P (dC, dI) vwCl [(h, .inr (3, [.null, .null, .null, .null, .null, .null, .null, .int 0])), (q7, .inl (cI, 6, .inl (fun _ => 0)))] H := hP
  have hD : va_D A [(h, .inr (3, [.null, .null, .null, .null, .null, .null, .null, .int 0])), (q7, .inl (cI, 6, .inl (fun _ => 0)))] := hD
  refine va_putF (D := (dC, dI)) (ci := 3) (v := .ref q7) (ty := .array .int) (C := RX3) (T := TX3) (N := 8) hx hb hts hinX3 tyX3 tyX3_ok nmX3 hown hK hP hD hS 0 rfl rfl 0 (by decide) (hlk (.fieldLink RX3 7 "KinForms$Reducer" "six" "[I") (by decide +kernel)) (fun _ h9 => h9) rfl hinit rfl (by decide +kernel) rfl rfl (Nat.le_of_ble_eq_true rfl) dX3_init_9 (fun H locs hP hD hS => ?_)
  have hP : va_P (dC, dI) vwCl [(h, .inr (3, [.ref q7, .null, .null, .null, .null, .null, .null, .int 0])), (q7, .inl (cI, 6, .inl (fun _ => 0)))] H := hP
  have hD : va_D A [(h, .inr (3, [.ref q7, .null, .null, .null, .null, .null, .null, .int 0])), (q7, .inl (cI, 6, .inl (fun _ => 0)))] := hD
  refine lv_aload_n hx hb dX3_init_12 rfl (lv_at hl 0 rfl) ?_
  refine lv_bipush (v := 9) hx hb dX3_init_13 (by decide) ?_
  refine kn_int hx hb (hlk (.arrayClass .int) (by decide +kernel)) hK hP hD hS hA 0 rfl (N' := 9) (by decide) (by decide) (by decide) (Nat.le_of_ble_eq_true rfl) (Nat.le_of_ble_eq_true rfl) dX3_init_15 (fun q15 H hP hD hS => ?_)
  have hP : va_P (dC, dI) vwCl [(h, .inr (3, [.ref q7, .null, .null, .null, .null, .null, .null, .int 0])), (q7, .inl (cI, 6, .inl (fun _ => 0))), (q15, .inl (cI, 9, .inl (fun _ => 0)))] H := hP
  have hD : va_D A [(h, .inr (3, [.ref q7, .null, .null, .null, .null, .null, .null, .int 0])), (q7, .inl (cI, 6, .inl (fun _ => 0))), (q15, .inl (cI, 9, .inl (fun _ => 0)))] := hD
  refine va_putF (D := (dC, dI)) (ci := 3) (v := .ref q15) (ty := .array .int) (C := RX3) (T := TX3) (N := 8) hx hb hts hinX3 tyX3 tyX3_ok nmX3 hown hK hP hD hS 0 rfl rfl 1 (by decide) (hlk (.fieldLink RX3 13 "KinForms$Reducer" "rows" "[I") (by decide +kernel)) (fun _ h9 => h9) rfl hinit rfl (by decide +kernel) rfl rfl (Nat.le_of_ble_eq_true rfl) dX3_init_17 (fun H locs hP hD hS => ?_)
  have hP : va_P (dC, dI) vwCl [(h, .inr (3, [.ref q7, .ref q15, .null, .null, .null, .null, .null, .int 0])), (q7, .inl (cI, 6, .inl (fun _ => 0))), (q15, .inl (cI, 9, .inl (fun _ => 0)))] H := hP
  have hD : va_D A [(h, .inr (3, [.ref q7, .ref q15, .null, .null, .null, .null, .null, .int 0])), (q7, .inl (cI, 6, .inl (fun _ => 0))), (q15, .inl (cI, 9, .inl (fun _ => 0)))] := hD
  refine lv_aload_n hx hb dX3_init_20 rfl (lv_at hl 0 rfl) ?_
  refine lv_bipush (v := 81) hx hb dX3_init_21 (by decide) ?_
  refine kn_int hx hb (hlk (.arrayClass .int) (by decide +kernel)) hK hP hD hS hA 0 rfl (N' := 81) (by decide) (by decide) (by decide) (Nat.le_of_ble_eq_true rfl) (Nat.le_of_ble_eq_true rfl) dX3_init_23 (fun q23 H hP hD hS => ?_)
  have hP : va_P (dC, dI) vwCl [(h, .inr (3, [.ref q7, .ref q15, .null, .null, .null, .null, .null, .int 0])), (q7, .inl (cI, 6, .inl (fun _ => 0))), (q15, .inl (cI, 9, .inl (fun _ => 0))), (q23, .inl (cI, 81, .inl (fun _ => 0)))] H := hP
  have hD : va_D A [(h, .inr (3, [.ref q7, .ref q15, .null, .null, .null, .null, .null, .int 0])), (q7, .inl (cI, 6, .inl (fun _ => 0))), (q15, .inl (cI, 9, .inl (fun _ => 0))), (q23, .inl (cI, 81, .inl (fun _ => 0)))] := hD
  refine va_putF (D := (dC, dI)) (ci := 3) (v := .ref q23) (ty := .array .int) (C := RX3) (T := TX3) (N := 8) hx hb hts hinX3 tyX3 tyX3_ok nmX3 hown hK hP hD hS 0 rfl rfl 2 (by decide) (hlk (.fieldLink RX3 16 "KinForms$Reducer" "box" "[I") (by decide +kernel)) (fun _ h9 => h9) rfl hinit rfl (by decide +kernel) rfl rfl (Nat.le_of_ble_eq_true rfl) dX3_init_25 (fun H locs hP hD hS => ?_)
  have hP : va_P (dC, dI) vwCl [(h, .inr (3, [.ref q7, .ref q15, .ref q23, .null, .null, .null, .null, .int 0])), (q7, .inl (cI, 6, .inl (fun _ => 0))), (q15, .inl (cI, 9, .inl (fun _ => 0))), (q23, .inl (cI, 81, .inl (fun _ => 0)))] H := hP
  have hD : va_D A [(h, .inr (3, [.ref q7, .ref q15, .ref q23, .null, .null, .null, .null, .int 0])), (q7, .inl (cI, 6, .inl (fun _ => 0))), (q15, .inl (cI, 9, .inl (fun _ => 0))), (q23, .inl (cI, 81, .inl (fun _ => 0)))] := hD
  refine lv_aload_n hx hb dX3_init_28 rfl (lv_at hl 0 rfl) ?_
  refine lv_bipush (v := 27) hx hb dX3_init_29 (by decide) ?_
  refine kn_int hx hb (hlk (.arrayClass .int) (by decide +kernel)) hK hP hD hS hA 0 rfl (N' := 27) (by decide) (by decide) (by decide) (Nat.le_of_ble_eq_true rfl) (Nat.le_of_ble_eq_true rfl) dX3_init_31 (fun q31 H hP hD hS => ?_)
  have hP : va_P (dC, dI) vwCl [(h, .inr (3, [.ref q7, .ref q15, .ref q23, .null, .null, .null, .null, .int 0])), (q7, .inl (cI, 6, .inl (fun _ => 0))), (q15, .inl (cI, 9, .inl (fun _ => 0))), (q23, .inl (cI, 81, .inl (fun _ => 0))), (q31, .inl (cI, 27, .inl (fun _ => 0)))] H := hP
  have hD : va_D A [(h, .inr (3, [.ref q7, .ref q15, .ref q23, .null, .null, .null, .null, .int 0])), (q7, .inl (cI, 6, .inl (fun _ => 0))), (q15, .inl (cI, 9, .inl (fun _ => 0))), (q23, .inl (cI, 81, .inl (fun _ => 0))), (q31, .inl (cI, 27, .inl (fun _ => 0)))] := hD
  refine va_putF (D := (dC, dI)) (ci := 3) (v := .ref q31) (ty := .array .int) (C := RX3) (T := TX3) (N := 8) hx hb hts hinX3 tyX3 tyX3_ok nmX3 hown hK hP hD hS 0 rfl rfl 3 (by decide) (hlk (.fieldLink RX3 19 "KinForms$Reducer" "worth" "[I") (by decide +kernel)) (fun _ h9 => h9) rfl hinit rfl (by decide +kernel) rfl rfl (Nat.le_of_ble_eq_true rfl) dX3_init_33 (fun H locs hP hD hS => ?_)
  have hP : va_P (dC, dI) vwCl [(h, .inr (3, [.ref q7, .ref q15, .ref q23, .ref q31, .null, .null, .null, .int 0])), (q7, .inl (cI, 6, .inl (fun _ => 0))), (q15, .inl (cI, 9, .inl (fun _ => 0))), (q23, .inl (cI, 81, .inl (fun _ => 0))), (q31, .inl (cI, 27, .inl (fun _ => 0)))] H := hP
  have hD : va_D A [(h, .inr (3, [.ref q7, .ref q15, .ref q23, .ref q31, .null, .null, .null, .int 0])), (q7, .inl (cI, 6, .inl (fun _ => 0))), (q15, .inl (cI, 9, .inl (fun _ => 0))), (q23, .inl (cI, 81, .inl (fun _ => 0))), (q31, .inl (cI, 27, .inl (fun _ => 0)))] := hD
  refine lv_aload_n hx hb dX3_init_36 rfl (lv_at hl 0 rfl) ?_
  refine lv_bipush (v := 81) hx hb dX3_init_37 (by decide) ?_
  refine kn_int hx hb (hlk (.arrayClass .int) (by decide +kernel)) hK hP hD hS hA 0 rfl (N' := 81) (by decide) (by decide) (by decide) (Nat.le_of_ble_eq_true rfl) (Nat.le_of_ble_eq_true rfl) dX3_init_39 (fun q39 H hP hD hS => ?_)
  have hP : va_P (dC, dI) vwCl [(h, .inr (3, [.ref q7, .ref q15, .ref q23, .ref q31, .null, .null, .null, .int 0])), (q7, .inl (cI, 6, .inl (fun _ => 0))), (q15, .inl (cI, 9, .inl (fun _ => 0))), (q23, .inl (cI, 81, .inl (fun _ => 0))), (q31, .inl (cI, 27, .inl (fun _ => 0))), (q39, .inl (cI, 81, .inl (fun _ => 0)))] H := hP
  have hD : va_D A [(h, .inr (3, [.ref q7, .ref q15, .ref q23, .ref q31, .null, .null, .null, .int 0])), (q7, .inl (cI, 6, .inl (fun _ => 0))), (q15, .inl (cI, 9, .inl (fun _ => 0))), (q23, .inl (cI, 81, .inl (fun _ => 0))), (q31, .inl (cI, 27, .inl (fun _ => 0))), (q39, .inl (cI, 81, .inl (fun _ => 0)))] := hD
  refine va_putF (D := (dC, dI)) (ci := 3) (v := .ref q39) (ty := .array .int) (C := RX3) (T := TX3) (N := 8) hx hb hts hinX3 tyX3 tyX3_ok nmX3 hown hK hP hD hS 0 rfl rfl 4 (by decide) (hlk (.fieldLink RX3 22 "KinForms$Reducer" "image" "[I") (by decide +kernel)) (fun _ h9 => h9) rfl hinit rfl (by decide +kernel) rfl rfl (Nat.le_of_ble_eq_true rfl) dX3_init_41 (fun H locs hP hD hS => ?_)
  have hP : va_P (dC, dI) vwCl [(h, .inr (3, [.ref q7, .ref q15, .ref q23, .ref q31, .ref q39, .null, .null, .int 0])), (q7, .inl (cI, 6, .inl (fun _ => 0))), (q15, .inl (cI, 9, .inl (fun _ => 0))), (q23, .inl (cI, 81, .inl (fun _ => 0))), (q31, .inl (cI, 27, .inl (fun _ => 0))), (q39, .inl (cI, 81, .inl (fun _ => 0)))] H := hP
  have hD : va_D A [(h, .inr (3, [.ref q7, .ref q15, .ref q23, .ref q31, .ref q39, .null, .null, .int 0])), (q7, .inl (cI, 6, .inl (fun _ => 0))), (q15, .inl (cI, 9, .inl (fun _ => 0))), (q23, .inl (cI, 81, .inl (fun _ => 0))), (q31, .inl (cI, 27, .inl (fun _ => 0))), (q39, .inl (cI, 81, .inl (fun _ => 0)))] := hD
  refine lv_aload_n hx hb dX3_init_44 rfl (lv_at hl 0 rfl) ?_
  refine lv_bipush (v := 6) hx hb dX3_init_45 (by decide) ?_
  refine kn_int hx hb (hlk (.arrayClass .int) (by decide +kernel)) hK hP hD hS hA 0 rfl (N' := 6) (by decide) (by decide) (by decide) (Nat.le_of_ble_eq_true rfl) (Nat.le_of_ble_eq_true rfl) dX3_init_47 (fun q47 H hP hD hS => ?_)
  have hP : va_P (dC, dI) vwCl [(h, .inr (3, [.ref q7, .ref q15, .ref q23, .ref q31, .ref q39, .null, .null, .int 0])), (q7, .inl (cI, 6, .inl (fun _ => 0))), (q15, .inl (cI, 9, .inl (fun _ => 0))), (q23, .inl (cI, 81, .inl (fun _ => 0))), (q31, .inl (cI, 27, .inl (fun _ => 0))), (q39, .inl (cI, 81, .inl (fun _ => 0))), (q47, .inl (cI, 6, .inl (fun _ => 0)))] H := hP
  have hD : va_D A [(h, .inr (3, [.ref q7, .ref q15, .ref q23, .ref q31, .ref q39, .null, .null, .int 0])), (q7, .inl (cI, 6, .inl (fun _ => 0))), (q15, .inl (cI, 9, .inl (fun _ => 0))), (q23, .inl (cI, 81, .inl (fun _ => 0))), (q31, .inl (cI, 27, .inl (fun _ => 0))), (q39, .inl (cI, 81, .inl (fun _ => 0))), (q47, .inl (cI, 6, .inl (fun _ => 0)))] := hD
  refine va_putF (D := (dC, dI)) (ci := 3) (v := .ref q47) (ty := .array .int) (C := RX3) (T := TX3) (N := 8) hx hb hts hinX3 tyX3 tyX3_ok nmX3 hown hK hP hD hS 0 rfl rfl 5 (by decide) (hlk (.fieldLink RX3 25 "KinForms$Reducer" "best" "[I") (by decide +kernel)) (fun _ h9 => h9) rfl hinit rfl (by decide +kernel) rfl rfl (Nat.le_of_ble_eq_true rfl) dX3_init_49 (fun H locs hP hD hS => ?_)
  have hP : va_P (dC, dI) vwCl [(h, .inr (3, [.ref q7, .ref q15, .ref q23, .ref q31, .ref q39, .ref q47, .null, .int 0])), (q7, .inl (cI, 6, .inl (fun _ => 0))), (q15, .inl (cI, 9, .inl (fun _ => 0))), (q23, .inl (cI, 81, .inl (fun _ => 0))), (q31, .inl (cI, 27, .inl (fun _ => 0))), (q39, .inl (cI, 81, .inl (fun _ => 0))), (q47, .inl (cI, 6, .inl (fun _ => 0)))] H := hP
  have hD : va_D A [(h, .inr (3, [.ref q7, .ref q15, .ref q23, .ref q31, .ref q39, .ref q47, .null, .int 0])), (q7, .inl (cI, 6, .inl (fun _ => 0))), (q15, .inl (cI, 9, .inl (fun _ => 0))), (q23, .inl (cI, 81, .inl (fun _ => 0))), (q31, .inl (cI, 27, .inl (fun _ => 0))), (q39, .inl (cI, 81, .inl (fun _ => 0))), (q47, .inl (cI, 6, .inl (fun _ => 0)))] := hD
  refine lv_aload_n hx hb dX3_init_52 rfl (lv_at hl 0 rfl) ?_
  refine lv_bipush (v := 9) hx hb dX3_init_53 (by decide) ?_
  refine kn_int hx hb (hlk (.arrayClass .int) (by decide +kernel)) hK hP hD hS hA 0 rfl (N' := 9) (by decide) (by decide) (by decide) (Nat.le_of_ble_eq_true rfl) (Nat.le_of_ble_eq_true rfl) dX3_init_55 (fun q55 H hP hD hS => ?_)
  have hP : va_P (dC, dI) vwCl [(h, .inr (3, [.ref q7, .ref q15, .ref q23, .ref q31, .ref q39, .ref q47, .null, .int 0])), (q7, .inl (cI, 6, .inl (fun _ => 0))), (q15, .inl (cI, 9, .inl (fun _ => 0))), (q23, .inl (cI, 81, .inl (fun _ => 0))), (q31, .inl (cI, 27, .inl (fun _ => 0))), (q39, .inl (cI, 81, .inl (fun _ => 0))), (q47, .inl (cI, 6, .inl (fun _ => 0))), (q55, .inl (cI, 9, .inl (fun _ => 0)))] H := hP
  have hD : va_D A [(h, .inr (3, [.ref q7, .ref q15, .ref q23, .ref q31, .ref q39, .ref q47, .null, .int 0])), (q7, .inl (cI, 6, .inl (fun _ => 0))), (q15, .inl (cI, 9, .inl (fun _ => 0))), (q23, .inl (cI, 81, .inl (fun _ => 0))), (q31, .inl (cI, 27, .inl (fun _ => 0))), (q39, .inl (cI, 81, .inl (fun _ => 0))), (q47, .inl (cI, 6, .inl (fun _ => 0))), (q55, .inl (cI, 9, .inl (fun _ => 0)))] := hD
  refine va_putF (D := (dC, dI)) (ci := 3) (v := .ref q55) (ty := .array .int) (C := RX3) (T := TX3) (N := 8) hx hb hts hinX3 tyX3 tyX3_ok nmX3 hown hK hP hD hS 0 rfl rfl 6 (by decide) (hlk (.fieldLink RX3 28 "KinForms$Reducer" "bestRows" "[I") (by decide +kernel)) (fun _ h9 => h9) rfl hinit rfl (by decide +kernel) rfl rfl (Nat.le_of_ble_eq_true rfl) dX3_init_57 (fun H locs hP hD hS => ?_)
  have hP : va_P (dC, dI) vwCl [(h, .inr (3, [.ref q7, .ref q15, .ref q23, .ref q31, .ref q39, .ref q47, .ref q55, .int 0])), (q7, .inl (cI, 6, .inl (fun _ => 0))), (q15, .inl (cI, 9, .inl (fun _ => 0))), (q23, .inl (cI, 81, .inl (fun _ => 0))), (q31, .inl (cI, 27, .inl (fun _ => 0))), (q39, .inl (cI, 81, .inl (fun _ => 0))), (q47, .inl (cI, 6, .inl (fun _ => 0))), (q55, .inl (cI, 9, .inl (fun _ => 0)))] H := hP
  have hD : va_D A [(h, .inr (3, [.ref q7, .ref q15, .ref q23, .ref q31, .ref q39, .ref q47, .ref q55, .int 0])), (q7, .inl (cI, 6, .inl (fun _ => 0))), (q15, .inl (cI, 9, .inl (fun _ => 0))), (q23, .inl (cI, 81, .inl (fun _ => 0))), (q31, .inl (cI, 27, .inl (fun _ => 0))), (q39, .inl (cI, 81, .inl (fun _ => 0))), (q47, .inl (cI, 6, .inl (fun _ => 0))), (q55, .inl (cI, 9, .inl (fun _ => 0)))] := hD
  have hf_16 := hlk (.fieldLink RX3 16 "KinForms$Reducer" "box" "[I") (by decide +kernel)
  obtain ⟨a, ea⟩ : ∃ a, a = ad [q7, q15, q23, q31, q39, q47, q55] := ⟨_, rfl⟩
  have hP : va_P (dC, dI) vwCl (rW cI h a (0 : Int32) (fun _ => 0) (fun _ => 0) (fun _ => 0) (fun _ => 0) (fun _ => 0) (fun _ => 0) (fun _ => 0)) H := by rw [ea]; exact hP
  have hD : va_D A (rW cI h a (0 : Int32) (fun _ => 0) (fun _ => 0) (fun _ => 0) (fun _ => 0) (fun _ => 0) (fun _ => 0) (fun _ => 0)) := by rw [ea]; exact hD
  clear ea
  unfold fX3_init at hF
  refine W_Q (fun Q hQ => ?_)
  refine W.cs (cells' := 7) (slots' := 219) rfl rfl ?_
  refine lv_iconst (v := 0) hx hb dX3_init_60 (by decide) ?_
  refine lv_istore_n (lv' := [(1, .int (0 : Int32)), (0, .ref h)]) hx hb dX3_init_61 rfl hl (by decide) rfl (fun ls hl => ?_)
  have hL62 : ∀ n : Nat, ∀ (x1_1 : Int32) (r_box_2 : Nat → Int32) (H : Heap) (locs : List Loc) (ls : Array Slot), va_P (dC, dI) vwCl (rW cI h a (0 : Int32) (fun _ => 0) (fun _ => 0) r_box_2 (fun _ => 0) (fun _ => 0) (fun _ => 0) (fun _ => 0)) H → va_D A (rW cI h a (0 : Int32) (fun _ => 0) (fun _ => 0) r_box_2 (fun _ => 0) (fun _ => 0) (fun _ => 0) (fun _ => 0)) → va_S A s.heap H locs → lv_has ls 2 [(0, .ref h), (1, .int x1_1)] → fX3_init_L62 n x1_1 r_box_2 = some o_r_box → W p l e rmX3_init s m ([.ref h] : List Value).toArray below meth c H locs 7 219 Q (F0 m 62 ls []) := by
    intro n
    induction n with
    | zero => intro x1_1 r_box_2 H locs ls hP hD hS hl hF; rw [fX3_init_L62] at hF; cases hF
    | succ n ih62 =>
      intro x1_1 r_box_2 H locs ls hP hD hS hl hF
      rw [fX3_init_L62] at hF
      refine lv_iload_n hx hb dX3_init_62 rfl (lv_at hl 1 rfl) ?_
      refine lv_bipush (v := (27)) hx hb dX3_init_63 (by decide) ?_
      refine lv_icmp_ge (tgt := 120) hx hb dX3_init_65 (by decide) (fun c0 => ?_) (fun c0 => ?_)
      · have hF := if_t hF c0
        have q0 := sm1 hF
        have hP : va_P (dC, dI) vwCl (rW cI h a (0 : Int32) (fun _ => 0) (fun _ => 0) o_r_box (fun _ => 0) (fun _ => 0) (fun _ => 0) (fun _ => 0)) H := by rw [← q0]; exact hP
        have hD : va_D A (rW cI h a (0 : Int32) (fun _ => 0) (fun _ => 0) o_r_box (fun _ => 0) (fun _ => 0) (fun _ => 0) (fun _ => 0)) := by rw [← q0]; exact hD
        refine W_Qe hQ ?_
        exact W.vret hx hb hr (fun t ht hW => ⟨⟨a, rfl, trivial, by rw [ht]; exact hP, va_K.moved hW.alike hK, hD⟩, hS.F ht⟩) hS.2.2 dX3_init_120
      · have hF := if_f hF c0
        refine lv_aload_n hx hb dX3_init_68 rfl (lv_at hl 0 rfl) ?_
        refine va_get (D := (dC, dI)) (ci := 3) (v := .ref (a 3)) (C := RX3) (T := TX3) (N := 8) hx hb hts hinX3 hown hK hP 0 rfl rfl 2 (by decide) hf_16 (fun _ h9 => h9) rfl dX3_init_69 ?_
        refine lv_iconst (v := 3) hx hb dX3_init_72 (by decide) ?_
        refine lv_iload_n hx hb dX3_init_73 rfl (lv_at hl 1 rfl) ?_
        refine lv_imul hx hb dX3_init_74 ?_
        refine lv_iload_n hx hb dX3_init_75 rfl (lv_at hl 1 rfl) ?_
        refine lv_bipush (v := (9)) hx hb dX3_init_76 (by decide) ?_
        refine lv_idiv hx hb dX3_init_78 (by decide) ?_
        refine lv_iconst (v := 1) hx hb dX3_init_79 (by decide) ?_
        refine lv_isub hx hb dX3_init_80 ?_
        obtain ⟨v_3, e_v_3, hF⟩ := nm_ex hF
        rw [← e_v_3]
        obtain ⟨hi, hF⟩ := ck_of hF
        obtain ⟨r_box_4, e_r_box_4, hF⟩ := nm_ex hF
        refine kc_iast (j := v_3.toNatClampNeg) (g := r_box_4) hx hb hK hP hD hS 3 0 rfl rfl rfl hi dX3_init_81 e_r_box_4 (fun H locs hP hD hS => ?_)
        have hP : va_P (dC, dI) vwCl (rW cI h a (0 : Int32) (fun _ => 0) (fun _ => 0) r_box_4 (fun _ => 0) (fun _ => 0) (fun _ => 0) (fun _ => 0)) H := hP
        have hD : va_D A (rW cI h a (0 : Int32) (fun _ => 0) (fun _ => 0) r_box_4 (fun _ => 0) (fun _ => 0) (fun _ => 0) (fun _ => 0)) := hD
        refine lv_aload_n hx hb dX3_init_82 rfl (lv_at hl 0 rfl) ?_
        refine va_get (D := (dC, dI)) (ci := 3) (v := .ref (a 3)) (C := RX3) (T := TX3) (N := 8) hx hb hts hinX3 hown hK hP 0 rfl rfl 2 (by decide) hf_16 (fun _ h9 => h9) rfl dX3_init_83 ?_
        refine lv_iconst (v := 3) hx hb dX3_init_86 (by decide) ?_
        refine lv_iload_n hx hb dX3_init_87 rfl (lv_at hl 1 rfl) ?_
        refine lv_imul hx hb dX3_init_88 ?_
        refine lv_iconst (v := 1) hx hb dX3_init_89 (by decide) ?_
        refine lv_iadd hx hb dX3_init_90 ?_
        refine lv_iload_n hx hb dX3_init_91 rfl (lv_at hl 1 rfl) ?_
        refine lv_iconst (v := 3) hx hb dX3_init_92 (by decide) ?_
        refine lv_idiv hx hb dX3_init_93 (by decide) ?_
        refine lv_iconst (v := 3) hx hb dX3_init_94 (by decide) ?_
        obtain ⟨v_5, e_v_5, hF⟩ := nm_ex hF
        rw [← e_v_5]
        refine lv_irem hx hb dX3_init_95 (by decide) ?_
        refine lv_iconst (v := 1) hx hb dX3_init_96 (by decide) ?_
        refine lv_isub hx hb dX3_init_97 ?_
        obtain ⟨v_6, e_v_6, hF⟩ := nm_ex hF
        rw [← e_v_6]
        obtain ⟨hi, hF⟩ := ck_of hF
        obtain ⟨r_box_7, e_r_box_7, hF⟩ := nm_ex hF
        refine kc_iast (j := v_6.toNatClampNeg) (g := r_box_7) hx hb hK hP hD hS 3 0 rfl rfl rfl hi dX3_init_98 e_r_box_7 (fun H locs hP hD hS => ?_)
        have hP : va_P (dC, dI) vwCl (rW cI h a (0 : Int32) (fun _ => 0) (fun _ => 0) r_box_7 (fun _ => 0) (fun _ => 0) (fun _ => 0) (fun _ => 0)) H := hP
        have hD : va_D A (rW cI h a (0 : Int32) (fun _ => 0) (fun _ => 0) r_box_7 (fun _ => 0) (fun _ => 0) (fun _ => 0) (fun _ => 0)) := hD
        refine lv_aload_n hx hb dX3_init_99 rfl (lv_at hl 0 rfl) ?_
        refine va_get (D := (dC, dI)) (ci := 3) (v := .ref (a 3)) (C := RX3) (T := TX3) (N := 8) hx hb hts hinX3 hown hK hP 0 rfl rfl 2 (by decide) hf_16 (fun _ h9 => h9) rfl dX3_init_100 ?_
        refine lv_iconst (v := 3) hx hb dX3_init_103 (by decide) ?_
        refine lv_iload_n hx hb dX3_init_104 rfl (lv_at hl 1 rfl) ?_
        refine lv_imul hx hb dX3_init_105 ?_
        refine lv_iconst (v := 2) hx hb dX3_init_106 (by decide) ?_
        refine lv_iadd hx hb dX3_init_107 ?_
        refine lv_iload_n hx hb dX3_init_108 rfl (lv_at hl 1 rfl) ?_
        refine lv_iconst (v := 3) hx hb dX3_init_109 (by decide) ?_
        refine lv_irem hx hb dX3_init_110 (by decide) ?_
        refine lv_iconst (v := 1) hx hb dX3_init_111 (by decide) ?_
        refine lv_isub hx hb dX3_init_112 ?_
        obtain ⟨v_8, e_v_8, hF⟩ := nm_ex hF
        rw [← e_v_8]
        obtain ⟨hi, hF⟩ := ck_of hF
        obtain ⟨r_box_9, e_r_box_9, hF⟩ := nm_ex hF
        refine kc_iast (j := v_8.toNatClampNeg) (g := r_box_9) hx hb hK hP hD hS 3 0 rfl rfl rfl hi dX3_init_113 e_r_box_9 (fun H locs hP hD hS => ?_)
        have hP : va_P (dC, dI) vwCl (rW cI h a (0 : Int32) (fun _ => 0) (fun _ => 0) r_box_9 (fun _ => 0) (fun _ => 0) (fun _ => 0) (fun _ => 0)) H := hP
        have hD : va_D A (rW cI h a (0 : Int32) (fun _ => 0) (fun _ => 0) r_box_9 (fun _ => 0) (fun _ => 0) (fun _ => 0) (fun _ => 0)) := hD
        obtain ⟨x1_10, e_x1_10, hF⟩ := nm_ex hF
        refine lv_iinc (v := x1_10) (lv' := [(1, .int x1_10), (0, .ref h)]) hx hb dX3_init_114 hl (k := 1) rfl (by rw [e_x1_10]; rfl) (by decide) rfl (fun ls hl => ?_)
        refine lv_goto (tgt := 62) hx hb dX3_init_117 (by decide) ?_
        exact ih62 x1_10 r_box_9 H locs ls hP hD hS (lv_sub hl [1, 0] rfl) hF
  exact hL62 fu (0 : Int32) (fun _ => 0) H locs ls hP hD hS (lv_sub hl [1, 0] rfl) hF
