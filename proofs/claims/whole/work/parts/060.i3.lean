def lkX0_init : List Cond := [.methodLink RX0 3 objectInit, .instanceMethod objectInit, .code objectInit ⟨#[0xb1]⟩ 1 none, .classLink RX0 9 "[[I", .arrayClass .int, .fieldLink RX0 11 "KinForms$Family" "members" "[[I", .fieldLink RX0 16 "KinForms$Family" "memberTurns" "[I", .fieldLink RX0 20 "KinForms$Family" "paths" "[[I"]
def vX0_init : List Cond := .code yX0_init cX0_init 1 none :: (lkX0_init ++ (wsX00 ++ ([])))
theorem q_X0_init : ∀ w ∈ vX0_init, goodWord w = true := gd_cons rfl (gd_app (by decide +kernel) (gd_app q_wsX00 gd_nil))
abbrev rmX0_init : Room := { frames := 1, cells := 35, slots := 400, locals := 20 }
set_option maxHeartbeats 4000000 in
set_option maxRecDepth 100000 in
theorem c_X0_init (l : Launch) (dC : Nat → ClassId) (dI : Nat → Nat → Nat) (cI : ClassId) (cG : ClassId) (h sz : Nat) : Met l yX0_init vX0_init rmX0_init (va_Pc [.ref h] (mPa (dC, dI) vwCl [(h, .inr (0, [.null, .null, .null, .int 0, .int 0, .int 0]))] [(cI, .int), (cG, .array .int)] sz)) (va_Qv (fun (_ : (Nat → Nat) × (Nat → Nat) × (Nat → Nat)) => True) (fun u t => va_P (dC, dI) vwCl (fW cI cG h u.1 u.2.1 u.2.2 0 0 0 (fun _ => 0) (fun _ _ => 0) (fun _ _ => 0)) t.heap ∧ va_K (dC, dI) vwCl [(cI, .int), (cG, .array .int)] t ∧ va_D (va_A [(h, .inr (0, [.null, .null, .null, .int 0, .int 0, .int 0]))] sz) (fW cI cG h u.1 u.2.1 u.2.2 0 0 0 (fun _ => 0) (fun _ _ => 0) (fun _ _ => 0))) (va_A [(h, .inr (0, [.null, .null, .null, .int 0, .int 0, .int 0]))] sz)) 35 400 (va_A [(h, .inr (0, [.null, .null, .null, .int 0, .int 0, .int 0]))] sz) := by
  refine Met.ofW (cc := cX0_init) (maxL := 1) (ret := none) (by decide) rfl ?_
  intro p e s m args below meth c s₁ B hml hv
  obtain ⟨rfl, hsz, hP, hK, hD0, hN, hO⟩ := hv
  have hx := B.exec
  have hb := B.bytes
  have hr := B.returns
  have hts := atoms_spec (ws := vX0_init) B.pre
  have hlk : ∀ w ∈ lkX0_init, w.before _ s = true := fun w h => hts w (List.mem_cons_of_mem _ (List.mem_append_left _ h))
  have hown : s.vm.findClass RX0 = some m.cls := findClass_of_methodNamed B.named
  have hlocks := B.notSynchronized
  have hinit : meth.name = "<init>" := (name_of_methodNamed B.named B.method).1
  subst hsz
  have hD := hD0.self (sz := s.heap.size)
  generalize hAe : va_A [(h, .inr (0, [.null, .null, .null, .int 0, .int 0, .int 0]))] s.heap.size = A at hD ⊢
  have hA : ∀ q : Nat, s.heap.size ≤ q → A q := fun q h => by rw [← hAe]; exact Or.inr h
  have hS : va_S A s.heap s.heap [] := va_S.rf
  have hinX0 : ∀ w ∈ wsX00, w ∈ vX0_init := fun w h => List.mem_cons_of_mem _ (List.mem_append_right _ (List.mem_append_left _ h))
  have hl := lv_entry ([.ref h] : List Value) (n := 1) (Nat.le_of_ble_eq_true rfl)
  rw [lg_entry_eq]
  generalize (lg_sl ([.ref h] : List Value) ++ List.replicate (1 - (lg_sl ([.ref h] : List Value)).length) Slot.unset).toArray = ls at hl ⊢
  have hl : lv_has ls 1 [(0, .ref h)] := hl
  have hP : va_P (dC, dI) vwCl [(h, .inr (0, [.null, .null, .null, .int 0, .int 0, .int 0]))] s.heap := hP
  refine W_HL (fun H locs eH eL => ?_)
  rw [← eH] at hP
  have hS : va_S A s.heap H locs := by rw [eH, eL]; exact hS
  refine lv_aload_n hx hb dX0_init_0 rfl (lv_at hl 0 rfl) ?_
  refine W.objInit hx hb hown (hlk (.methodLink RX0 3 objectInit) (by decide +kernel)) (hlk (.instanceMethod objectInit) (by decide +kernel)) (hlk _ (List.mem_of_getElem? (i := 2) rfl)) rfl (by rw [hml]; exact hl.1) rfl dX0_init_1 (Nat.le_of_ble_eq_true rfl) (Nat.le_of_ble_eq_true rfl) ?_
  refine W.eq (g2 := F0 m 4 ls []) rfl ?_
  refine lv_aload_n hx hb dX0_init_4 rfl (lv_at hl 0 rfl) ?_
  refine lv_bipush (v := 16) hx hb dX0_init_5 (by decide) ?_
  refine lv_bipush (v := 6) hx hb dX0_init_7 (by decide) ?_
  refine kn_mna hx hb hown (hlk (.classLink RX0 9 "[[I") (by decide +kernel)) hO.1 (hlk (.arrayClass .int) (by decide +kernel)) hK hP hD hS hA 0 1 rfl rfl (N' := 16) (K' := 6) (by decide) (by decide) (by decide) (by decide) (by decide) (by decide) (by decide) (Nat.le_of_ble_eq_true rfl) (Nat.le_of_ble_eq_true rfl) dX0_init_9 (fun q1 r1 H hP hD hS => ?_)
  have hP : va_P (dC, dI) vwCl (([(h, .inr (0, [.null, .null, .null, .int 0, .int 0, .int 0]))] ++ [(q1, .inl (cG, 16, .inr (.inr (.inr (.inr (fun i => if i < 16 then some (r1 i) else none))))))]) ++ gr cI 6 r1 (fun _ _ => 0) 16) H := hP
  have hD : va_D A (([(h, .inr (0, [.null, .null, .null, .int 0, .int 0, .int 0]))] ++ [(q1, .inl (cG, 16, .inr (.inr (.inr (.inr (fun i => if i < 16 then some (r1 i) else none))))))]) ++ gr cI 6 r1 (fun _ _ => 0) 16) := hD
  refine va_putF (D := (dC, dI)) (ci := 0) (v := .ref q1) (ty := .array (.array .int)) (C := RX0) (T := TX0) (N := 6) hx hb hts hinX0 tyX0 tyX0_ok nmX0 hown hK hP hD hS 0 rfl rfl 0 (by decide) (hlk (.fieldLink RX0 11 "KinForms$Family" "members" "[[I") (by decide +kernel)) (fun _ h9 => h9) rfl hinit rfl (by decide +kernel) rfl rfl (Nat.le_of_ble_eq_true rfl) dX0_init_13 (fun H locs hP hD hS => ?_)
  have hP : va_P (dC, dI) vwCl ([(h, .inr (0, [.ref q1, .null, .null, .int 0, .int 0, .int 0])), (q1, .inl (cG, 16, .inr (.inr (.inr (.inr (fun i => if i < 16 then some (r1 i) else none))))))] ++ gr cI 6 r1 (fun _ _ => 0) 16) H := hP
  have hD : va_D A ([(h, .inr (0, [.ref q1, .null, .null, .int 0, .int 0, .int 0])), (q1, .inl (cG, 16, .inr (.inr (.inr (.inr (fun i => if i < 16 then some (r1 i) else none))))))] ++ gr cI 6 r1 (fun _ _ => 0) 16) := hD
  refine lv_aload_n hx hb dX0_init_16 rfl (lv_at hl 0 rfl) ?_
  refine lv_bipush (v := 16) hx hb dX0_init_17 (by decide) ?_
  refine kn_int hx hb (hlk (.arrayClass .int) (by decide +kernel)) hK hP hD hS hA 0 rfl (N' := 16) (by decide) (by decide) (by decide) (Nat.le_of_ble_eq_true rfl) (Nat.le_of_ble_eq_true rfl) dX0_init_19 (fun q2 H hP hD hS => ?_)
  have hP := hP.swap
  have hD := hD.swap
  have hP : va_P (dC, dI) vwCl ([(h, .inr (0, [.ref q1, .null, .null, .int 0, .int 0, .int 0])), (q1, .inl (cG, 16, .inr (.inr (.inr (.inr (fun i => if i < 16 then some (r1 i) else none)))))), (q2, .inl (cI, 16, .inl (fun _ => 0)))] ++ gr cI 6 r1 (fun _ _ => 0) 16) H := hP
  have hD : va_D A ([(h, .inr (0, [.ref q1, .null, .null, .int 0, .int 0, .int 0])), (q1, .inl (cG, 16, .inr (.inr (.inr (.inr (fun i => if i < 16 then some (r1 i) else none)))))), (q2, .inl (cI, 16, .inl (fun _ => 0)))] ++ gr cI 6 r1 (fun _ _ => 0) 16) := hD
  refine va_putF (D := (dC, dI)) (ci := 0) (v := .ref q2) (ty := .array .int) (C := RX0) (T := TX0) (N := 6) hx hb hts hinX0 tyX0 tyX0_ok nmX0 hown hK hP hD hS 0 rfl rfl 1 (by decide) (hlk (.fieldLink RX0 16 "KinForms$Family" "memberTurns" "[I") (by decide +kernel)) (fun _ h9 => h9) rfl hinit rfl (by decide +kernel) rfl rfl (Nat.le_of_ble_eq_true rfl) dX0_init_21 (fun H locs hP hD hS => ?_)
  have hP : va_P (dC, dI) vwCl ([(h, .inr (0, [.ref q1, .ref q2, .null, .int 0, .int 0, .int 0])), (q1, .inl (cG, 16, .inr (.inr (.inr (.inr (fun i => if i < 16 then some (r1 i) else none)))))), (q2, .inl (cI, 16, .inl (fun _ => 0)))] ++ gr cI 6 r1 (fun _ _ => 0) 16) H := hP
  have hD : va_D A ([(h, .inr (0, [.ref q1, .ref q2, .null, .int 0, .int 0, .int 0])), (q1, .inl (cG, 16, .inr (.inr (.inr (.inr (fun i => if i < 16 then some (r1 i) else none)))))), (q2, .inl (cI, 16, .inl (fun _ => 0)))] ++ gr cI 6 r1 (fun _ _ => 0) 16) := hD
  refine lv_aload_n hx hb dX0_init_24 rfl (lv_at hl 0 rfl) ?_
  refine lv_bipush (v := 16) hx hb dX0_init_25 (by decide) ?_
  refine lv_bipush (v := 16) hx hb dX0_init_27 (by decide) ?_
  refine kn_mna hx hb hown (hlk (.classLink RX0 9 "[[I") (by decide +kernel)) hO.1 (hlk (.arrayClass .int) (by decide +kernel)) hK hP hD hS hA 0 1 rfl rfl (N' := 16) (K' := 16) (by decide) (by decide) (by decide) (by decide) (by decide) (by decide) (by decide) (Nat.le_of_ble_eq_true rfl) (Nat.le_of_ble_eq_true rfl) dX0_init_29 (fun q3 r3 H hP hD hS => ?_)
  have hP := vr_lay hP
  have hD := vr_layD hD
  have hP : va_P (dC, dI) vwCl (([(h, .inr (0, [.ref q1, .ref q2, .null, .int 0, .int 0, .int 0])), (q1, .inl (cG, 16, .inr (.inr (.inr (.inr (fun i => if i < 16 then some (r1 i) else none)))))), (q2, .inl (cI, 16, .inl (fun _ => 0)))] ++ [(q3, .inl (cG, 16, .inr (.inr (.inr (.inr (fun i => if i < 16 then some (r3 i) else none))))))]) ++ (gr cI 6 r1 (fun _ _ => 0) 16 ++ gr cI 16 r3 (fun _ _ => 0) 16)) H := hP
  have hD : va_D A (([(h, .inr (0, [.ref q1, .ref q2, .null, .int 0, .int 0, .int 0])), (q1, .inl (cG, 16, .inr (.inr (.inr (.inr (fun i => if i < 16 then some (r1 i) else none)))))), (q2, .inl (cI, 16, .inl (fun _ => 0)))] ++ [(q3, .inl (cG, 16, .inr (.inr (.inr (.inr (fun i => if i < 16 then some (r3 i) else none))))))]) ++ (gr cI 6 r1 (fun _ _ => 0) 16 ++ gr cI 16 r3 (fun _ _ => 0) 16)) := hD
  refine va_putF (D := (dC, dI)) (ci := 0) (v := .ref q3) (ty := .array (.array .int)) (C := RX0) (T := TX0) (N := 6) hx hb hts hinX0 tyX0 tyX0_ok nmX0 hown hK hP hD hS 0 rfl rfl 2 (by decide) (hlk (.fieldLink RX0 20 "KinForms$Family" "paths" "[[I") (by decide +kernel)) (fun _ h9 => h9) rfl hinit rfl (by decide +kernel) rfl rfl (Nat.le_of_ble_eq_true rfl) dX0_init_33 (fun H locs hP hD hS => ?_)
  have hP : va_P (dC, dI) vwCl ([(h, .inr (0, [.ref q1, .ref q2, .ref q3, .int 0, .int 0, .int 0])), (q1, .inl (cG, 16, .inr (.inr (.inr (.inr (fun i => if i < 16 then some (r1 i) else none)))))), (q2, .inl (cI, 16, .inl (fun _ => 0))), (q3, .inl (cG, 16, .inr (.inr (.inr (.inr (fun i => if i < 16 then some (r3 i) else none))))))] ++ (gr cI 6 r1 (fun _ _ => 0) 16 ++ gr cI 16 r3 (fun _ _ => 0) 16)) H := hP
  have hD : va_D A ([(h, .inr (0, [.ref q1, .ref q2, .ref q3, .int 0, .int 0, .int 0])), (q1, .inl (cG, 16, .inr (.inr (.inr (.inr (fun i => if i < 16 then some (r1 i) else none)))))), (q2, .inl (cI, 16, .inl (fun _ => 0))), (q3, .inl (cG, 16, .inr (.inr (.inr (.inr (fun i => if i < 16 then some (r3 i) else none))))))] ++ (gr cI 6 r1 (fun _ _ => 0) 16 ++ gr cI 16 r3 (fun _ _ => 0) 16)) := hD
  refine W.cs (cells' := 35) (slots' := 400) rfl rfl ?_
  exact W.vret hx hb hr (fun t ht hW => ⟨⟨(ad [q1, q2, q3], r1, r3), rfl, trivial, by rw [ht]; exact hP, va_K.moved hW.alike hK, hD⟩, hS.F ht⟩) hS.2.2 dX0_init_36
def fmW (cI : ClassId) (cG : ClassId) (h : Nat) (a : Nat → Nat) (ya : Nat → Nat) (mb : Nat → Nat) (pb : Nat → Nat) (f_disc : Int32) (f_turns : Int32) (f_num : Nat → Int32) (f_least : Nat → Int32) (f_tab : Nat → Int32) (y_size : Int32) (y_many : Int32) (y_by : Int32) (y_turns : Nat → Int32) (y_mem : Nat → Nat → Int32) (y_path : Nat → Nat → Int32) : va_W := [(h, .inr (1, [.ref (a 1), .ref (a 2), .ref (a 3), .ref (a 4), .int f_disc, .int f_turns])), ((a 1), .inl (cI, 6, .inl f_num)), ((a 2), .inl (cI, 6, .inl f_least)), ((a 3), .inl (cI, 9, .inl f_tab)), ((a 4), .inr (0, [.ref (ya 1), .ref (ya 2), .ref (ya 3), .int y_size, .int y_many, .int y_by])), ((ya 1), .inl (cG, 16, .inr (.inr (.inr (.inr (fun i => if i < 16 then some (mb i) else none)))))), ((ya 2), .inl (cI, 16, .inl y_turns)), ((ya 3), .inl (cG, 16, .inr (.inr (.inr (.inr (fun i => if i < 16 then some (pb i) else none))))))] ++ (gr cI 6 mb y_mem 16 ++ gr cI 16 pb y_path 16)
theorem fmW_g0 (cI : ClassId) (cG : ClassId) (h : Nat) (a : Nat → Nat) (ya : Nat → Nat) (mb : Nat → Nat) (pb : Nat → Nat) (f_disc : Int32) (f_turns : Int32) (f_num : Nat → Int32) (f_least : Nat → Int32) (f_tab : Nat → Int32) (y_size : Int32) (y_many : Int32) (y_by : Int32) (y_turns : Nat → Int32) (y_mem : Nat → Nat → Int32) (y_path : Nat → Nat → Int32) {i : Nat} (hi : i < 16) : (fmW cI cG h a ya mb pb f_disc f_turns f_num f_least f_tab y_size y_many y_by y_turns y_mem y_path)[8 + i]? = some (mb i, .inl (cI, 6, .inl (y_mem i))) := gr_at0 hi
theorem fmW_s0 (cI : ClassId) (cG : ClassId) (h : Nat) (a : Nat → Nat) (ya : Nat → Nat) (mb : Nat → Nat) (pb : Nat → Nat) (f_disc : Int32) (f_turns : Int32) (f_num : Nat → Int32) (f_least : Nat → Int32) (f_tab : Nat → Int32) (y_size : Int32) (y_many : Int32) (y_by : Int32) (y_turns : Nat → Int32) (y_mem : Nat → Nat → Int32) (y_path : Nat → Nat → Int32) {i : Nat} {gz : Nat → Int32} (hi : i < 16) : (fmW cI cG h a ya mb pb f_disc f_turns f_num f_least f_tab y_size y_many y_by y_turns y_mem y_path).set (8 + i) (mb i, .inl (cI, 6, .inl gz)) = (fmW cI cG h a ya mb pb f_disc f_turns f_num f_least f_tab y_size y_many y_by y_turns (va_up y_mem i gz) y_path) := gr_set0 hi
theorem fmW_g1 (cI : ClassId) (cG : ClassId) (h : Nat) (a : Nat → Nat) (ya : Nat → Nat) (mb : Nat → Nat) (pb : Nat → Nat) (f_disc : Int32) (f_turns : Int32) (f_num : Nat → Int32) (f_least : Nat → Int32) (f_tab : Nat → Int32) (y_size : Int32) (y_many : Int32) (y_by : Int32) (y_turns : Nat → Int32) (y_mem : Nat → Nat → Int32) (y_path : Nat → Nat → Int32) {i : Nat} (hi : i < 16) : (fmW cI cG h a ya mb pb f_disc f_turns f_num f_least f_tab y_size y_many y_by y_turns y_mem y_path)[24 + i]? = some (pb i, .inl (cI, 16, .inl (y_path i))) := gr_at1 hi
theorem fmW_s1 (cI : ClassId) (cG : ClassId) (h : Nat) (a : Nat → Nat) (ya : Nat → Nat) (mb : Nat → Nat) (pb : Nat → Nat) (f_disc : Int32) (f_turns : Int32) (f_num : Nat → Int32) (f_least : Nat → Int32) (f_tab : Nat → Int32) (y_size : Int32) (y_many : Int32) (y_by : Int32) (y_turns : Nat → Int32) (y_mem : Nat → Nat → Int32) (y_path : Nat → Nat → Int32) {i : Nat} {gz : Nat → Int32} (hi : i < 16) : (fmW cI cG h a ya mb pb f_disc f_turns f_num f_least f_tab y_size y_many y_by y_turns y_mem y_path).set (24 + i) (pb i, .inl (cI, 16, .inl gz)) = (fmW cI cG h a ya mb pb f_disc f_turns f_num f_least f_tab y_size y_many y_by y_turns y_mem (va_up y_path i gz)) := gr_set1 hi
def lkX1_init : List Cond := [.methodLink RX1 1 objectInit, .instanceMethod objectInit, .code objectInit ⟨#[0xb1]⟩ 1 none, .arrayClass .int, .fieldLink RX1 7 "KinForms$Form" "numbers" "[I", .fieldLink RX1 13 "KinForms$Form" "leastNumbers" "[I", .fieldLink RX1 16 "KinForms$Form" "toLeast" "[I", .classLink RX1 19 RX0, .instantiable RX0 6, .initialized RX0, .fieldLink RX1 22 "KinForms$Form" "family" "LKinForms$Family;", .instanceMethod yX0_init]
def vX1_init : List Cond := .code yX1_init cX1_init 1 none :: (lkX1_init ++ (wsX10 ++ (wsX00 ++ (vX0_init ++ ([])))))
theorem q_X1_init : ∀ w ∈ vX1_init, goodWord w = true := gd_cons rfl (gd_app (by decide +kernel) (gd_app q_wsX10 (gd_app q_wsX00 (gd_app q_X0_init gd_nil))))
theorem g_X1_init_X0_init : GoodIn vX1_init (vX0_init) := gi_of (fun w h => List.mem_cons_of_mem _ (List.mem_append_right _ (List.mem_append_right _ (List.mem_append_right _ (List.mem_append_left _ h))))) q_X0_init
abbrev rmX1_init : Room := { frames := 2, cells := 39, slots := 427, locals := 60 }
set_option maxHeartbeats 4000000 in
set_option maxRecDepth 100000 in
theorem c_X1_init (l : Launch) (dC : Nat → ClassId) (dI : Nat → Nat → Nat) (cI : ClassId) (cG : ClassId) (h sz : Nat) : Met l yX1_init vX1_init rmX1_init (va_Pc [.ref h] (mPa (dC, dI) vwCl [(h, .inr (1, [.null, .null, .null, .null, .int 0, .int 0]))] [(cI, .int), (cG, .array .int)] sz)) (va_Qv (fun (_ : (Nat → Nat) × (Nat → Nat) × (Nat → Nat) × (Nat → Nat)) => True) (fun u t => va_P (dC, dI) vwCl (fmW cI cG h u.1 u.2.1 u.2.2.1 u.2.2.2 0 0 (fun _ => 0) (fun _ => 0) (fun _ => 0) 0 0 0 (fun _ => 0) (fun _ _ => 0) (fun _ _ => 0)) t.heap ∧ va_K (dC, dI) vwCl [(cI, .int), (cG, .array .int)] t ∧ va_D (va_A [(h, .inr (1, [.null, .null, .null, .null, .int 0, .int 0]))] sz) (fmW cI cG h u.1 u.2.1 u.2.2.1 u.2.2.2 0 0 (fun _ => 0) (fun _ => 0) (fun _ => 0) 0 0 0 (fun _ => 0) (fun _ _ => 0) (fun _ _ => 0))) (va_A [(h, .inr (1, [.null, .null, .null, .null, .int 0, .int 0]))] sz)) 39 427 (va_A [(h, .inr (1, [.null, .null, .null, .null, .int 0, .int 0]))] sz) := by
  refine Met.ofW (cc := cX1_init) (maxL := 1) (ret := none) (by decide) rfl ?_
  intro p e s m args below meth c s₁ B hml hv
  obtain ⟨rfl, hsz, hP, hK, hD0, hN, hO⟩ := hv
  have hx := B.exec
  have hb := B.bytes
  have hr := B.returns
  have hts := atoms_spec (ws := vX1_init) B.pre
  have hlk : ∀ w ∈ lkX1_init, w.before _ s = true := fun w h => hts w (List.mem_cons_of_mem _ (List.mem_append_left _ h))
  have hown : s.vm.findClass RX1 = some m.cls := findClass_of_methodNamed B.named
  have hlocks := B.notSynchronized
  have hinit : meth.name = "<init>" := (name_of_methodNamed B.named B.method).1
  subst hsz
  have hD := hD0.self (sz := s.heap.size)
  generalize hAe : va_A [(h, .inr (1, [.null, .null, .null, .null, .int 0, .int 0]))] s.heap.size = A at hD ⊢
  have hA : ∀ q : Nat, s.heap.size ≤ q → A q := fun q h => by rw [← hAe]; exact Or.inr h
  have hS : va_S A s.heap s.heap [] := va_S.rf
  have hinX1 : ∀ w ∈ wsX10, w ∈ vX1_init := fun w h => List.mem_cons_of_mem _ (List.mem_append_right _ (List.mem_append_left _ h))
  have hl := lv_entry ([.ref h] : List Value) (n := 1) (Nat.le_of_ble_eq_true rfl)
  rw [lg_entry_eq]
  generalize (lg_sl ([.ref h] : List Value) ++ List.replicate (1 - (lg_sl ([.ref h] : List Value)).length) Slot.unset).toArray = ls at hl ⊢
  have hl : lv_has ls 1 [(0, .ref h)] := hl
  have hP : va_P (dC, dI) vwCl [(h, .inr (1, [.null, .null, .null, .null, .int 0, .int 0]))] s.heap := hP
  refine W_HL (fun H locs eH eL => ?_)
  rw [← eH] at hP
  have hS : va_S A s.heap H locs := by rw [eH, eL]; exact hS
  have hinX0 : ∀ w ∈ wsX00, w ∈ vX1_init := fun w h => List.mem_cons_of_mem _ (List.mem_append_right _ (List.mem_append_right _ (List.mem_append_left _ h)))
  refine lv_aload_n hx hb dX1_init_0 rfl (lv_at hl 0 rfl) ?_
  refine W.objInit hx hb hown (hlk (.methodLink RX1 1 objectInit) (by decide +kernel)) (hlk (.instanceMethod objectInit) (by decide +kernel)) (hlk _ (List.mem_of_getElem? (i := 2) rfl)) rfl (by rw [hml]; exact hl.1) rfl dX1_init_1 (Nat.le_of_ble_eq_true rfl) (Nat.le_of_ble_eq_true rfl) ?_
  refine W.eq (g2 := F0 m 4 ls []) rfl ?_
  refine lv_aload_n hx hb dX1_init_4 rfl (lv_at hl 0 rfl) ?_
  refine lv_bipush (v := 6) hx hb dX1_init_5 (by decide) ?_
  refine kn_int hx hb (hlk (.arrayClass .int) (by decide +kernel)) hK hP hD hS hA 0 rfl (N' := 6) (by decide) (by decide) (by decide) (Nat.le_of_ble_eq_true rfl) (Nat.le_of_ble_eq_true rfl) dX1_init_7 (fun q7 H hP hD hS => ?_)
  have hP : va_P (dC, dI) vwCl [(h, .inr (1, [.null, .null, .null, .null, .int 0, .int 0])), (q7, .inl (cI, 6, .inl (fun _ => 0)))] H := hP
  have hD : va_D A [(h, .inr (1, [.null, .null, .null, .null, .int 0, .int 0])), (q7, .inl (cI, 6, .inl (fun _ => 0)))] := hD
  refine va_putF (D := (dC, dI)) (ci := 1) (v := .ref q7) (ty := .array .int) (C := RX1) (T := TX1) (N := 6) hx hb hts hinX1 tyX1 tyX1_ok nmX1 hown hK hP hD hS 0 rfl rfl 0 (by decide) (hlk (.fieldLink RX1 7 "KinForms$Form" "numbers" "[I") (by decide +kernel)) (fun _ h9 => h9) rfl hinit rfl (by decide +kernel) rfl rfl (Nat.le_of_ble_eq_true rfl) dX1_init_9 (fun H locs hP hD hS => ?_)
  have hP : va_P (dC, dI) vwCl [(h, .inr (1, [.ref q7, .null, .null, .null, .int 0, .int 0])), (q7, .inl (cI, 6, .inl (fun _ => 0)))] H := hP
  have hD : va_D A [(h, .inr (1, [.ref q7, .null, .null, .null, .int 0, .int 0])), (q7, .inl (cI, 6, .inl (fun _ => 0)))] := hD
  refine lv_aload_n hx hb dX1_init_12 rfl (lv_at hl 0 rfl) ?_
  refine lv_bipush (v := 6) hx hb dX1_init_13 (by decide) ?_
  refine kn_int hx hb (hlk (.arrayClass .int) (by decide +kernel)) hK hP hD hS hA 0 rfl (N' := 6) (by decide) (by decide) (by decide) (Nat.le_of_ble_eq_true rfl) (Nat.le_of_ble_eq_true rfl) dX1_init_15 (fun q15 H hP hD hS => ?_)
  have hP : va_P (dC, dI) vwCl [(h, .inr (1, [.ref q7, .null, .null, .null, .int 0, .int 0])), (q7, .inl (cI, 6, .inl (fun _ => 0))), (q15, .inl (cI, 6, .inl (fun _ => 0)))] H := hP
  have hD : va_D A [(h, .inr (1, [.ref q7, .null, .null, .null, .int 0, .int 0])), (q7, .inl (cI, 6, .inl (fun _ => 0))), (q15, .inl (cI, 6, .inl (fun _ => 0)))] := hD
  refine va_putF (D := (dC, dI)) (ci := 1) (v := .ref q15) (ty := .array .int) (C := RX1) (T := TX1) (N := 6) hx hb hts hinX1 tyX1 tyX1_ok nmX1 hown hK hP hD hS 0 rfl rfl 1 (by decide) (hlk (.fieldLink RX1 13 "KinForms$Form" "leastNumbers" "[I") (by decide +kernel)) (fun _ h9 => h9) rfl hinit rfl (by decide +kernel) rfl rfl (Nat.le_of_ble_eq_true rfl) dX1_init_17 (fun H locs hP hD hS => ?_)
  have hP : va_P (dC, dI) vwCl [(h, .inr (1, [.ref q7, .ref q15, .null, .null, .int 0, .int 0])), (q7, .inl (cI, 6, .inl (fun _ => 0))), (q15, .inl (cI, 6, .inl (fun _ => 0)))] H := hP
  have hD : va_D A [(h, .inr (1, [.ref q7, .ref q15, .null, .null, .int 0, .int 0])), (q7, .inl (cI, 6, .inl (fun _ => 0))), (q15, .inl (cI, 6, .inl (fun _ => 0)))] := hD
  refine lv_aload_n hx hb dX1_init_20 rfl (lv_at hl 0 rfl) ?_
  refine lv_bipush (v := 9) hx hb dX1_init_21 (by decide) ?_
  refine kn_int hx hb (hlk (.arrayClass .int) (by decide +kernel)) hK hP hD hS hA 0 rfl (N' := 9) (by decide) (by decide) (by decide) (Nat.le_of_ble_eq_true rfl) (Nat.le_of_ble_eq_true rfl) dX1_init_23 (fun q23 H hP hD hS => ?_)
  have hP : va_P (dC, dI) vwCl [(h, .inr (1, [.ref q7, .ref q15, .null, .null, .int 0, .int 0])), (q7, .inl (cI, 6, .inl (fun _ => 0))), (q15, .inl (cI, 6, .inl (fun _ => 0))), (q23, .inl (cI, 9, .inl (fun _ => 0)))] H := hP
  have hD : va_D A [(h, .inr (1, [.ref q7, .ref q15, .null, .null, .int 0, .int 0])), (q7, .inl (cI, 6, .inl (fun _ => 0))), (q15, .inl (cI, 6, .inl (fun _ => 0))), (q23, .inl (cI, 9, .inl (fun _ => 0)))] := hD
  refine va_putF (D := (dC, dI)) (ci := 1) (v := .ref q23) (ty := .array .int) (C := RX1) (T := TX1) (N := 6) hx hb hts hinX1 tyX1 tyX1_ok nmX1 hown hK hP hD hS 0 rfl rfl 2 (by decide) (hlk (.fieldLink RX1 16 "KinForms$Form" "toLeast" "[I") (by decide +kernel)) (fun _ h9 => h9) rfl hinit rfl (by decide +kernel) rfl rfl (Nat.le_of_ble_eq_true rfl) dX1_init_25 (fun H locs hP hD hS => ?_)
  have hP : va_P (dC, dI) vwCl [(h, .inr (1, [.ref q7, .ref q15, .ref q23, .null, .int 0, .int 0])), (q7, .inl (cI, 6, .inl (fun _ => 0))), (q15, .inl (cI, 6, .inl (fun _ => 0))), (q23, .inl (cI, 9, .inl (fun _ => 0)))] H := hP
  have hD : va_D A [(h, .inr (1, [.ref q7, .ref q15, .ref q23, .null, .int 0, .int 0])), (q7, .inl (cI, 6, .inl (fun _ => 0))), (q15, .inl (cI, 6, .inl (fun _ => 0))), (q23, .inl (cI, 9, .inl (fun _ => 0)))] := hD
  refine lv_aload_n hx hb dX1_init_28 rfl (lv_at hl 0 rfl) ?_
  refine va_new (ci := 0) (fs := [.null, .null, .null, .int 0, .int 0, .int 0]) (C := RX0) (T := TX0) (N := 6) hx hb hts hinX0 tyX0 tyX0_ok hown (hlk (.classLink RX1 19 RX0) (by decide +kernel)) (hlk (.instantiable RX0 6) (by decide +kernel)) (hlk (.initialized RX0) (by decide +kernel)) hK hP hD hS hA rfl (fun j hj => by rcases (show j = 0 ∨ j = 1 ∨ j = 2 ∨ j = 3 ∨ j = 4 ∨ j = 5 by omega) with rfl | rfl | rfl | rfl | rfl | rfl <;> rfl) (Nat.le_of_ble_eq_true rfl) (Nat.le_of_ble_eq_true rfl) dX1_init_29 (fun qf H hP hD hS => ?_)
  have hP : va_P (dC, dI) vwCl (([(h, .inr (1, [.ref q7, .ref q15, .ref q23, .null, .int 0, .int 0])), (q7, .inl (cI, 6, .inl (fun _ => 0))), (q15, .inl (cI, 6, .inl (fun _ => 0))), (q23, .inl (cI, 9, .inl (fun _ => 0)))] ++ [(qf, .inr (0, [.null, .null, .null, .int 0, .int 0, .int 0]))]) ++ []) H := hP
  have hD : va_D A (([(h, .inr (1, [.ref q7, .ref q15, .ref q23, .null, .int 0, .int 0])), (q7, .inl (cI, 6, .inl (fun _ => 0))), (q15, .inl (cI, 6, .inl (fun _ => 0))), (q23, .inl (cI, 9, .inl (fun _ => 0)))] ++ [(qf, .inr (0, [.null, .null, .null, .int 0, .int 0, .int 0]))]) ++ []) := hD
  refine lv_dup hx hb dX1_init_32 rfl ?_
  have hFc := va_free (wc := [(qf, .inr (0, [.null, .null, .null, .int 0, .int 0, .int 0]))]) hD hS hA [4] rfl
  have hPc := hP.sub (ws' := [(qf, .inr (0, [.null, .null, .null, .int 0, .int 0, .int 0]))]) [4] rfl
  have hDc := hD.sub (ws' := [(qf, .inr (0, [.null, .null, .null, .int 0, .int 0, .int 0]))]) [4] (by decide) rfl
  refine va_callv (va_runIN (As := []) (rest := [.ref qf, .ref h]) ⟨hx, hb, hml, hown, hts⟩ (c_X0_init l dC dI cI cG qf H.size) ⟨va_cnB 0 hts g_X1_init_X0_init rfl rfl rfl (hN.2 (RX1, 21, yX0_init, "KinForms") (by decide +kernel)) (hlk (.initialized RX0) (by decide +kernel)) (by decide +kernel) ⟨Nat.le_of_ble_eq_true rfl, Nat.le_of_ble_eq_true rfl⟩, rfl, hlk (.instanceMethod yX0_init) (by decide +kernel)⟩ ⟨mPa_blind, mPa_at hK hPc hDc hN hO⟩ rfl rfl hl.1 rfl (lv_room (Nat.le_of_ble_eq_true rfl)) dX1_init_33 ⟨Nat.le_of_ble_eq_true rfl, Nat.le_of_ble_eq_true rfl⟩) hS (fun q _ h => hFc q h) hFc (fun u t H1 locs ht hvm hw hB hz1 hk1 hS => ?_)
  obtain ⟨hP1, hK1, hD1⟩ := hB
  rw [ht] at hP1
  obtain ⟨hP, hD⟩ := jn_new hP hD hk1 hFc hP1 hD1
  obtain ⟨ya, mb, pb⟩ := u
  have hP : va_P (dC, dI) vwCl ([(h, .inr (1, [.ref q7, .ref q15, .ref q23, .null, .int 0, .int 0])), (q7, .inl (cI, 6, .inl (fun _ => 0))), (q15, .inl (cI, 6, .inl (fun _ => 0))), (q23, .inl (cI, 9, .inl (fun _ => 0)))] ++ (fW cI cG qf ya mb pb 0 0 0 (fun _ => 0) (fun _ _ => 0) (fun _ _ => 0))) H1 := by have h9 := hP; rw [List.append_nil] at h9; exact h9
  have hD : va_D A ([(h, .inr (1, [.ref q7, .ref q15, .ref q23, .null, .int 0, .int 0])), (q7, .inl (cI, 6, .inl (fun _ => 0))), (q15, .inl (cI, 6, .inl (fun _ => 0))), (q23, .inl (cI, 9, .inl (fun _ => 0)))] ++ (fW cI cG qf ya mb pb 0 0 0 (fun _ => 0) (fun _ _ => 0) (fun _ _ => 0))) := by have h9 := hD; rw [List.append_nil] at h9; exact h9
  generalize H1 = H at hP hS ⊢
  refine va_putF (D := (dC, dI)) (ci := 1) (v := .ref qf) (ty := .object "KinForms$Family") (C := RX1) (T := TX1) (N := 6) hx hb hts hinX1 tyX1 tyX1_ok nmX1 hown hK hP hD hS 0 rfl rfl 3 (by decide) (hlk (.fieldLink RX1 22 "KinForms$Form" "family" "LKinForms$Family;") (by decide +kernel)) (fun _ h9 => h9) rfl hinit rfl (by decide +kernel) rfl rfl (Nat.le_of_ble_eq_true rfl) dX1_init_36 (fun H locs hP hD hS => ?_)
  refine W.cs (cells' := 39) (slots' := 427) rfl rfl ?_
  exact W.vret hx hb hr (fun t ht hW => ⟨⟨(ad [q7, q15, q23, qf], ya, mb, pb), rfl, trivial, by rw [ht]; exact hP, va_K.moved hW.alike hK, hD⟩, hS.F ht⟩) hS.2.2 dX1_init_39
