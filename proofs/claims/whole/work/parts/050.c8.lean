def fX6_turns_L54 (k87 : Option (Int32 × (Nat → Int32) × (Nat → Int32))) (givenRows_5 : Nat → Int32) (turned : Nat → Int32) : Nat → (Int32) → Option (Int32 × (Nat → Int32) × (Nat → Int32))
  | 0, _ => none
  | n + 1, x12_6 => if (9 : Int32) ≤ x12_6 then ((k87)) else (if okI x12_6 9 then bd1 (fX6_isOutside (givenRows_5 x12_6.toNatClampNeg) (-20 : Int32) (20 : Int32)) (fun (r_7 : Int32) => if r_7 = 0 then (nm (x12_6 + (1 : Int32)) (fun (x12_8 : Int32) => (fX6_turns_L54 k87 givenRows_5 turned n x12_8))) else (some ((-100002 : Int32), givenRows_5, turned))) else none)
def fX6_turns (fu : Nat) (held : Int32) (givenRows : Nat → Int32) (turned : Nat → Int32) (f_num : Nat → Int32) (f2_num : Nat → Int32) (p0 : Int32) (p1 : Int32) (p2 : Int32) (p3 : Int32) (p4 : Int32) (p5 : Int32) (p6 : Int32) (p7 : Int32) (p8 : Int32) (p9 : Int32) (p10 : Int32) : Option (Int32 × (Nat → Int32) × (Nat → Int32)) :=
  bd1 (fX6_isUnknown held p0) (fun (r_1 : Int32) => nm (some ((-100001 : Int32), givenRows, turned)) (fun (k16 : Option (Int32 × (Nat → Int32) × (Nat → Int32))) => if r_1 = 0 then (bd1 (fX6_isUnknown held p1) (fun (r_2 : Int32) => if r_2 = 0 then (bd1 (fX6_giveRow givenRows (0 : Int32) p2 p3 p4) (fun (givenRows_3 : Nat → Int32) => bd1 (fX6_giveRow givenRows_3 (1 : Int32) p5 p6 p7) (fun (givenRows_4 : Nat → Int32) => bd1 (fX6_giveRow givenRows_4 (2 : Int32) p8 p9 p10) (fun (givenRows_5 : Nat → Int32) => nm (bd1 (fX6_areTable 9 givenRows_5 (0 : Int32) (3 : Int32) (6 : Int32)) (fun (r_9 : Int32) => if r_9 = 0 then (some ((0 : Int32), givenRows_5, turned)) else (if okI p0 12 then bd1 (fX4_turn fu 9 f_num givenRows_5 turned) (fun (turned_11 : Nat → Int32) => if okI p1 12 then bd1 (fX4_areAlike fu turned_11 f2_num) (fun (r_13 : Int32) => nm (fun (s_14 : Int32) => some (s_14, givenRows_5, turned_11)) (fun (k147 : (Int32) → Option (Int32 × (Nat → Int32) × (Nat → Int32))) => if r_13 = 0 then ((k147 (0 : Int32))) else ((k147 (1 : Int32))))) else none) else none))) (fun (k87 : Option (Int32 × (Nat → Int32) × (Nat → Int32))) => (fX6_turns_L54 k87 givenRows_5 turned fu (0 : Int32))))))) else ((k16)))) else ((k16))))
def lkX6_turns : List Cond := [.constant RX6 57 (-100002), .initialized RX4, .static yX4_turn, .static yX4_areAlike, .constant RX6 67 (-100001), .fieldLink RX6 34 "KinForms" "givenRows" "[I", .fieldLink RX6 11 "KinForms" "forms" "[LKinForms$Form;", .fieldLink RX6 37 "KinForms" "turned" "[I"]
def vX6_turns : List Cond := .code yX6_turns cX6_turns 13 (some .int) :: (lkX6_turns ++ (wsX60 ++ (wsX10 ++ (wsV RX6 63 RX6 yX6_isUnknown vX6_isUnknown ++ (wsV RX6 102 RX6 yX6_giveRow vX6_giveRow ++ (va_wsS RX6 69 yX6_isOutside vX6_isOutside ++ (va_wsS RX6 106 yX6_areTable vX6_areTable ++ (vX4_turn ++ (vX4_areAlike ++ ([]))))))))))
theorem q_X6_turns : ∀ w ∈ vX6_turns, goodWord w = true := gd_cons rfl (gd_app (by decide +kernel) (gd_app q_wsX60 (gd_app q_wsX10 (gd_app (gd_V q_X6_isUnknown) (gd_app (gd_V q_X6_giveRow) (gd_app (gd_S q_X6_isOutside) (gd_app (gd_S q_X6_areTable) (gd_app q_X4_turn (gd_app q_X4_areAlike gd_nil)))))))))
theorem g_X6_turns_X6_isUnknown : GoodIn vX6_turns (wsV RX6 63 RX6 yX6_isUnknown vX6_isUnknown) := gi_of (fun w h => List.mem_cons_of_mem _ (List.mem_append_right _ (List.mem_append_right _ (List.mem_append_right _ (List.mem_append_left _ h))))) (gd_V q_X6_isUnknown)
theorem g_X6_turns_X6_giveRow : GoodIn vX6_turns (wsV RX6 102 RX6 yX6_giveRow vX6_giveRow) := gi_of (fun w h => List.mem_cons_of_mem _ (List.mem_append_right _ (List.mem_append_right _ (List.mem_append_right _ (List.mem_append_right _ (List.mem_append_left _ h)))))) (gd_V q_X6_giveRow)
theorem g_X6_turns_X6_isOutside : GoodIn vX6_turns (va_wsS RX6 69 yX6_isOutside vX6_isOutside) := gi_of (fun w h => List.mem_cons_of_mem _ (List.mem_append_right _ (List.mem_append_right _ (List.mem_append_right _ (List.mem_append_right _ (List.mem_append_right _ (List.mem_append_left _ h))))))) (gd_S q_X6_isOutside)
theorem g_X6_turns_X6_areTable : GoodIn vX6_turns (va_wsS RX6 106 yX6_areTable vX6_areTable) := gi_of (fun w h => List.mem_cons_of_mem _ (List.mem_append_right _ (List.mem_append_right _ (List.mem_append_right _ (List.mem_append_right _ (List.mem_append_right _ (List.mem_append_right _ (List.mem_append_left _ h)))))))) (gd_S q_X6_areTable)
theorem g_X6_turns_X4_turn : GoodIn vX6_turns (vX4_turn) := gi_of (fun w h => List.mem_cons_of_mem _ (List.mem_append_right _ (List.mem_append_right _ (List.mem_append_right _ (List.mem_append_right _ (List.mem_append_right _ (List.mem_append_right _ (List.mem_append_right _ (List.mem_append_left _ h))))))))) q_X4_turn
theorem g_X6_turns_X4_areAlike : GoodIn vX6_turns (vX4_areAlike) := gi_of (fun w h => List.mem_cons_of_mem _ (List.mem_append_right _ (List.mem_append_right _ (List.mem_append_right _ (List.mem_append_right _ (List.mem_append_right _ (List.mem_append_right _ (List.mem_append_right _ (List.mem_append_right _ (List.mem_append_left _ h)))))))))) q_X4_areAlike
abbrev rmX6_turns : Room := { frames := 3, cells := 0, slots := 0, locals := 68 }
set_option maxHeartbeats 4000000 in
set_option maxRecDepth 100000 in
theorem c_X6_turns (l : Launch) (dC : Nat → ClassId) (dI : Nat → Nat → Nat) (cI : ClassId) (cF : ClassId) (h : Nat) (a : Nat → Nat) (fo : Nat) (ga : Nat → Nat) (fo2 : Nat) (gb : Nat → Nat) (fu : Nat) (sz : Nat) (held : Int32) (p_ : Int32) (fr : Nat → Option Nat) (givenRows : Nat → Int32) (turned : Nat → Int32) (f_disc : Int32) (f_turns : Int32) (f_num : Nat → Int32) (f2_disc : Int32) (f2_turns : Int32) (f2_num : Nat → Int32) (p0 : Int32) (p1 : Int32) (p2 : Int32) (p3 : Int32) (p4 : Int32) (p5 : Int32) (p6 : Int32) (p7 : Int32) (p8 : Int32) (p9 : Int32) (p10 : Int32) (ro : Int32) (o_givenRows : Nat → Int32) (o_turned : Nat → Int32) (hfo : okI p0 12 → fr p0.toNatClampNeg = some fo) (hfo2 : okI p1 12 → fr p1.toNatClampNeg = some fo2) (hF : fX6_turns fu held givenRows turned f_num f2_num p0 p1 p2 p3 p4 p5 p6 p7 p8 p9 p10 = some (ro, o_givenRows, o_turned)) : Met l yX6_turns vX6_turns rmX6_turns (va_Pc [.ref h, .int p0, .int p1, .int p2, .int p3, .int p4, .int p5, .int p6, .int p7, .int p8, .int p9, .int p10] (mPk (dC, dI) vwCl (tuW cI cF h a fo ga fo2 gb held p_ fr givenRows turned f_disc f_turns f_num f2_disc f2_turns f2_num) [(cI, .int), (cF, .object "KinForms$Form")] sz)) (va_Qi (fun x (_ : Unit) => x = ro) (mPo (dC, dI) vwCl (tuW cI cF h a fo ga fo2 gb held p_ fr o_givenRows o_turned f_disc f_turns f_num f2_disc f2_turns f2_num) [(cI, .int), (cF, .object "KinForms$Form")] (va_A (tuW cI cF h a fo ga fo2 gb held p_ fr givenRows turned f_disc f_turns f_num f2_disc f2_turns f2_num) sz)) (va_A (tuW cI cF h a fo ga fo2 gb held p_ fr givenRows turned f_disc f_turns f_num f2_disc f2_turns f2_num) sz)) 0 0 (va_A (tuW cI cF h a fo ga fo2 gb held p_ fr givenRows turned f_disc f_turns f_num f2_disc f2_turns f2_num) sz) := by
  refine Met.ofW (cc := cX6_turns) (maxL := 13) (ret := (some .int)) (by decide) rfl ?_
  intro p e s m args below meth c s₁ B hml hv
  obtain ⟨rfl, hsz, hP, hK, hD0, hN⟩ := hv
  have hx := B.exec
  have hb := B.bytes
  have hr := B.returns
  have hts := atoms_spec (ws := vX6_turns) B.pre
  have hlk : ∀ w ∈ lkX6_turns, w.before _ s = true := fun w h => hts w (List.mem_cons_of_mem _ (List.mem_append_left _ h))
  have hown : s.vm.findClass RX6 = some m.cls := findClass_of_methodNamed B.named
  have hlocks := B.notSynchronized
  subst hsz
  have hD := hD0.self (sz := s.heap.size)
  generalize hAe : va_A (tuW cI cF h a fo ga fo2 gb held p_ fr givenRows turned f_disc f_turns f_num f2_disc f2_turns f2_num) s.heap.size = A at hD ⊢
  have hA : ∀ q : Nat, s.heap.size ≤ q → A q := fun q h => by rw [← hAe]; exact Or.inr h
  have hS : va_S A s.heap s.heap [] := va_S.rf
  have hinX6 : ∀ w ∈ wsX60, w ∈ vX6_turns := fun w h => List.mem_cons_of_mem _ (List.mem_append_right _ (List.mem_append_left _ h))
  have hinX1 : ∀ w ∈ wsX10, w ∈ vX6_turns := fun w h => List.mem_cons_of_mem _ (List.mem_append_right _ (List.mem_append_right _ (List.mem_append_left _ h)))
  have hf_34 := hlk (.fieldLink RX6 34 "KinForms" "givenRows" "[I") (by decide +kernel)
  have hf_11 := hlk (.fieldLink RX6 11 "KinForms" "forms" "[LKinForms$Form;") (by decide +kernel)
  have hf_73 := va_Nw.use (A := ([.ref h, .int p0, .int p1, .int p2, .int p3, .int p4, .int p5, .int p6, .int p7, .int p8, .int p9, .int p10] : List Value).toArray) rfl (hN.1 (RX6, 73, "KinForms$Form", "numbers", "[I", "KinForms") (by decide +kernel))
  have hf_37 := hlk (.fieldLink RX6 37 "KinForms" "turned" "[I") (by decide +kernel)
  have hl := lv_entry ([.ref h, .int p0, .int p1, .int p2, .int p3, .int p4, .int p5, .int p6, .int p7, .int p8, .int p9, .int p10] : List Value) (n := 13) (Nat.le_of_ble_eq_true rfl)
  rw [lg_entry_eq]
  generalize (lg_sl ([.ref h, .int p0, .int p1, .int p2, .int p3, .int p4, .int p5, .int p6, .int p7, .int p8, .int p9, .int p10] : List Value) ++ List.replicate (13 - (lg_sl ([.ref h, .int p0, .int p1, .int p2, .int p3, .int p4, .int p5, .int p6, .int p7, .int p8, .int p9, .int p10] : List Value)).length) Slot.unset).toArray = ls at hl ⊢
  have hl : lv_has ls 13 [(0, .ref h), (1, .int p0), (2, .int p1), (3, .int p2), (4, .int p3), (5, .int p4), (6, .int p5), (7, .int p6), (8, .int p7), (9, .int p8), (10, .int p9), (11, .int p10)] := hl
  unfold fX6_turns at hF
  refine W_Q (fun Q hQ => ?_)
  have hP : va_P (dC, dI) vwCl (tuW cI cF h a fo ga fo2 gb held p_ fr givenRows turned f_disc f_turns f_num f2_disc f2_turns f2_num) s.heap := hP
  refine W_HL (fun H locs eH eL => ?_)
  rw [← eH] at hP
  have hS : va_S A s.heap H locs := by rw [eH, eL]; exact hS
  refine lv_aload_n hx hb dX6_turns_0 rfl (lv_at hl 0 rfl) ?_
  refine lv_iload_n hx hb dX6_turns_1 rfl (lv_at hl 1 rfl) ?_
  obtain ⟨r_1, hc, hF⟩ := bd1_of hF
  refine rc_i (va_runV (As := [.int p0]) (rest := []) ⟨hx, hb, hml, hown, hts⟩ (c_X6_isUnknown l dC dI cI h a held p_ p0 r_1 hc) (cwV 1 hts g_X6_turns_X6_isUnknown rfl rfl rfl (by decide +kernel) ⟨Nat.le_of_ble_eq_true rfl, Nat.le_of_ble_eq_true rfl⟩) ⟨rPk_blind, va_recv hK hP (ci := 4) (q0 := 0) rfl rfl, rPk_at (hK.sub (tys' := [(cI, .int)]) [0] rfl) (hP.sub (ws' := (kW0 cI h a held p_)) [0] rfl) hN⟩ rfl rfl hl.1 rfl (lv_room (Nat.le_of_ble_eq_true rfl)) dX6_turns_2 ⟨Nat.zero_le _, Nat.zero_le _⟩) ?_
  obtain ⟨k16, e_k16, hF⟩ := nm_ex hF
  have hk16 : ∀  (H : Heap) (locs : List Loc) (ls : Array Slot), va_P (dC, dI) vwCl (tuW cI cF h a fo ga fo2 gb held p_ fr givenRows turned f_disc f_turns f_num f2_disc f2_turns f2_num) H → va_D A (tuW cI cF h a fo ga fo2 gb held p_ fr givenRows turned f_disc f_turns f_num f2_disc f2_turns f2_num) → va_S A s.heap H locs → lv_has ls 13 [] → k16 = some (ro, o_givenRows, o_turned) → W p l e rmX6_turns s m ([.ref h, .int p0, .int p1, .int p2, .int p3, .int p4, .int p5, .int p6, .int p7, .int p8, .int p9, .int p10] : List Value).toArray below meth c H locs 0 0 Q (F0 m 16 ls []) := by
    intro H locs ls hP hD hS hl hF
    have hF := ka0 e_k16 hF
    refine lv_ldc (v := (-100001)) hx hb hown (hlk (.constant RX6 67 (-100001)) (by decide +kernel)) dX6_turns_16 ?_
    obtain ⟨q0, q1, q2⟩ := sm3 hF
    have hP : va_P (dC, dI) vwCl (tuW cI cF h a fo ga fo2 gb held p_ fr o_givenRows o_turned f_disc f_turns f_num f2_disc f2_turns f2_num) H := by rw [← q1, ← q2]; exact hP
    have hD : va_D A (tuW cI cF h a fo ga fo2 gb held p_ fr o_givenRows o_turned f_disc f_turns f_num f2_disc f2_turns f2_num) := by rw [← q1, ← q2]; exact hD
    refine W_Qe hQ ?_
    exact W.iret hx hb hr (fun t ht hW => ⟨⟨(-100001 : Int32), (), rfl, q0, by rw [ht]; exact hP, va_K.moved hW.alike hK, hD⟩, hS.F ht⟩) hS.2.2 dX6_turns_18
  clear e_k16
  refine lv_if_ne (tgt := 16) hx hb dX6_turns_5 (by decide) (fun c0 => ?_) (fun c0 => ?_)
  · have hF := if_f hF c0
    exact hk16 H locs ls hP hD hS (lv_sub hl [] rfl) hF
  · have hF := if_t hF c0
    refine lv_aload_n hx hb dX6_turns_8 rfl (lv_at hl 0 rfl) ?_
    refine lv_iload_n hx hb dX6_turns_9 rfl (lv_at hl 2 rfl) ?_
    obtain ⟨r_2, hc, hF⟩ := bd1_of hF
    refine rc_i (va_runV (As := [.int p1]) (rest := []) ⟨hx, hb, hml, hown, hts⟩ (c_X6_isUnknown l dC dI cI h a held p_ p1 r_2 hc) (cwV 1 hts g_X6_turns_X6_isUnknown rfl rfl rfl (by decide +kernel) ⟨Nat.le_of_ble_eq_true rfl, Nat.le_of_ble_eq_true rfl⟩) ⟨rPk_blind, va_recv hK hP (ci := 4) (q0 := 0) rfl rfl, rPk_at (hK.sub (tys' := [(cI, .int)]) [0] rfl) (hP.sub (ws' := (kW0 cI h a held p_)) [0] rfl) hN⟩ rfl rfl hl.1 rfl (lv_room (Nat.le_of_ble_eq_true rfl)) dX6_turns_10 ⟨Nat.zero_le _, Nat.zero_le _⟩) ?_
    refine lv_if_eq (tgt := 19) hx hb dX6_turns_13 (by decide) (fun c0 => ?_) (fun c0 => ?_)
    · have hF := if_t hF c0
      refine lv_aload_n hx hb dX6_turns_19 rfl (lv_at hl 0 rfl) ?_
      refine lv_iconst (v := 0) hx hb dX6_turns_20 (by decide) ?_
      refine lv_iload_n hx hb dX6_turns_21 rfl (lv_at hl 3 rfl) ?_
      refine lv_iload hx hb dX6_turns_22 (lv_at hl 4 rfl) ?_
      refine lv_iload hx hb dX6_turns_24 (lv_at hl 5 rfl) ?_
      obtain ⟨givenRows_3, hc, hF⟩ := bd1_of hF
      refine sc_v (wf := (tuW cI cF h a fo ga fo2 gb held p_ fr givenRows_3 turned f_disc f_turns f_num f2_disc f2_turns f2_num)) (va_runV (As := [.int (0 : Int32), .int p2, .int p3, .int p4]) (rest := []) ⟨hx, hb, hml, hown, hts⟩ (c_X6_giveRow l dC dI cI h a H.size held p_ givenRows (0 : Int32) p2 p3 p4 givenRows_3 hc) (cwV 4 hts g_X6_turns_X6_giveRow rfl rfl rfl (by decide +kernel) ⟨Nat.le_of_ble_eq_true rfl, Nat.le_of_ble_eq_true rfl⟩) ⟨mPk_blind, va_recv hK hP (ci := 4) (q0 := 0) rfl rfl, mPk_at (hK.sub (tys' := [(cI, .int)]) [0] rfl) (hP.sub (ws' := (kW5 cI h a held p_ givenRows)) [0, 2] rfl) (hD.sub (ws' := (kW5 cI h a held p_ givenRows)) [0, 2] (by decide) rfl) hN⟩ rfl rfl hl.1 rfl (lv_room (Nat.le_of_ble_eq_true rfl)) dX6_turns_26 ⟨Nat.zero_le _, Nat.zero_le _⟩) hP hD hS hA [0, 2] [1, 3, 4, 5, 6, 7] rfl rfl rfl rfl rfl (by decide) (fun H locs hP hD hS => ?_)
      refine lv_aload_n hx hb dX6_turns_29 rfl (lv_at hl 0 rfl) ?_
      refine lv_iconst (v := 1) hx hb dX6_turns_30 (by decide) ?_
      refine lv_iload hx hb dX6_turns_31 (lv_at hl 6 rfl) ?_
      refine lv_iload hx hb dX6_turns_33 (lv_at hl 7 rfl) ?_
      refine lv_iload hx hb dX6_turns_35 (lv_at hl 8 rfl) ?_
      obtain ⟨givenRows_4, hc, hF⟩ := bd1_of hF
      refine sc_v (wf := (tuW cI cF h a fo ga fo2 gb held p_ fr givenRows_4 turned f_disc f_turns f_num f2_disc f2_turns f2_num)) (va_runV (As := [.int (1 : Int32), .int p5, .int p6, .int p7]) (rest := []) ⟨hx, hb, hml, hown, hts⟩ (c_X6_giveRow l dC dI cI h a H.size held p_ givenRows_3 (1 : Int32) p5 p6 p7 givenRows_4 hc) (cwV 4 hts g_X6_turns_X6_giveRow rfl rfl rfl (by decide +kernel) ⟨Nat.le_of_ble_eq_true rfl, Nat.le_of_ble_eq_true rfl⟩) ⟨mPk_blind, va_recv hK hP (ci := 4) (q0 := 0) rfl rfl, mPk_at (hK.sub (tys' := [(cI, .int)]) [0] rfl) (hP.sub (ws' := (kW5 cI h a held p_ givenRows_3)) [0, 2] rfl) (hD.sub (ws' := (kW5 cI h a held p_ givenRows_3)) [0, 2] (by decide) rfl) hN⟩ rfl rfl hl.1 rfl (lv_room (Nat.le_of_ble_eq_true rfl)) dX6_turns_37 ⟨Nat.zero_le _, Nat.zero_le _⟩) hP hD hS hA [0, 2] [1, 3, 4, 5, 6, 7] rfl rfl rfl rfl rfl (by decide) (fun H locs hP hD hS => ?_)
      refine lv_aload_n hx hb dX6_turns_40 rfl (lv_at hl 0 rfl) ?_
      refine lv_iconst (v := 2) hx hb dX6_turns_41 (by decide) ?_
      refine lv_iload hx hb dX6_turns_42 (lv_at hl 9 rfl) ?_
      refine lv_iload hx hb dX6_turns_44 (lv_at hl 10 rfl) ?_
      refine lv_iload hx hb dX6_turns_46 (lv_at hl 11 rfl) ?_
      obtain ⟨givenRows_5, hc, hF⟩ := bd1_of hF
      refine sc_v (wf := (tuW cI cF h a fo ga fo2 gb held p_ fr givenRows_5 turned f_disc f_turns f_num f2_disc f2_turns f2_num)) (va_runV (As := [.int (2 : Int32), .int p8, .int p9, .int p10]) (rest := []) ⟨hx, hb, hml, hown, hts⟩ (c_X6_giveRow l dC dI cI h a H.size held p_ givenRows_4 (2 : Int32) p8 p9 p10 givenRows_5 hc) (cwV 4 hts g_X6_turns_X6_giveRow rfl rfl rfl (by decide +kernel) ⟨Nat.le_of_ble_eq_true rfl, Nat.le_of_ble_eq_true rfl⟩) ⟨mPk_blind, va_recv hK hP (ci := 4) (q0 := 0) rfl rfl, mPk_at (hK.sub (tys' := [(cI, .int)]) [0] rfl) (hP.sub (ws' := (kW5 cI h a held p_ givenRows_4)) [0, 2] rfl) (hD.sub (ws' := (kW5 cI h a held p_ givenRows_4)) [0, 2] (by decide) rfl) hN⟩ rfl rfl hl.1 rfl (lv_room (Nat.le_of_ble_eq_true rfl)) dX6_turns_48 ⟨Nat.zero_le _, Nat.zero_le _⟩) hP hD hS hA [0, 2] [1, 3, 4, 5, 6, 7] rfl rfl rfl rfl rfl (by decide) (fun H locs hP hD hS => ?_)
      refine lv_iconst (v := 0) hx hb dX6_turns_51 (by decide) ?_
      refine lv_istore (lv' := [(12, .int (0 : Int32)), (0, .ref h), (1, .int p0), (2, .int p1), (3, .int p2), (4, .int p3), (5, .int p4), (6, .int p5), (7, .int p6), (8, .int p7), (9, .int p8), (10, .int p9), (11, .int p10)]) hx hb dX6_turns_52 hl (by decide) rfl (fun ls hl => ?_)
      obtain ⟨k87, e_k87, hF⟩ := nm_ex hF
      have hk87 : ∀  (H : Heap) (locs : List Loc) (ls : Array Slot), va_P (dC, dI) vwCl (tuW cI cF h a fo ga fo2 gb held p_ fr givenRows_5 turned f_disc f_turns f_num f2_disc f2_turns f2_num) H → va_D A (tuW cI cF h a fo ga fo2 gb held p_ fr givenRows_5 turned f_disc f_turns f_num f2_disc f2_turns f2_num) → va_S A s.heap H locs → lv_has ls 13 [(0, .ref h), (1, .int p0), (2, .int p1)] → k87 = some (ro, o_givenRows, o_turned) → W p l e rmX6_turns s m ([.ref h, .int p0, .int p1, .int p2, .int p3, .int p4, .int p5, .int p6, .int p7, .int p8, .int p9, .int p10] : List Value).toArray below meth c H locs 0 0 Q (F0 m 87 ls []) := by
        intro H locs ls hP hD hS hl hF
        have hF := ka0 e_k87 hF
        refine lv_aload_n hx hb dX6_turns_87 rfl (lv_at hl 0 rfl) ?_
        refine va_get (D := (dC, dI)) (ci := 4) (v := .ref (a 5)) (C := RX6) (T := TX6) (N := 8) hx hb hts hinX6 hown hK hP 0 rfl rfl 4 (by decide) hf_34 (fun _ h9 => h9) rfl dX6_turns_88 ?_
        refine lv_iconst (v := 0) hx hb dX6_turns_91 (by decide) ?_
        refine lv_iconst (v := 3) hx hb dX6_turns_92 (by decide) ?_
        refine lv_bipush (v := (6)) hx hb dX6_turns_93 (by decide) ?_
        obtain ⟨r_9, hc, hF⟩ := bd1_of hF
        refine rc_i (va_runS (As := [.ref (a 5), .int (0 : Int32), .int (3 : Int32), .int (6 : Int32)]) (rest := []) ⟨hx, hb, hml, hown, hts⟩ (c_X6_areTable l dC dI cI (a 5) 9 givenRows_5 (0 : Int32) (3 : Int32) (6 : Int32) r_9 hc) (va_cwS 4 hts g_X6_turns_X6_areTable rfl rfl rfl (by decide +kernel) ⟨Nat.le_of_ble_eq_true rfl, Nat.le_of_ble_eq_true rfl⟩) ⟨rPk_blind, rPk_at (hK.sub (tys' := [(cI, .int)]) [0] rfl) (hP.sub (ws' := (tW1 cI (a 5) 9 givenRows_5)) [2] rfl) hN⟩ rfl rfl hl.1 rfl (lv_room (Nat.le_of_ble_eq_true rfl)) dX6_turns_95 ⟨Nat.zero_le _, Nat.zero_le _⟩) ?_
        refine lv_if_ne (tgt := 103) hx hb dX6_turns_98 (by decide) (fun c0 => ?_) (fun c0 => ?_)
        · have hF := if_f hF c0
          refine lv_aload_n hx hb dX6_turns_103 rfl (lv_at hl 0 rfl) ?_
          refine va_get (D := (dC, dI)) (ci := 4) (v := .ref (a 1)) (C := RX6) (T := TX6) (N := 8) hx hb hts hinX6 hown hK hP 0 rfl rfl 0 (by decide) hf_11 (fun _ h9 => h9) rfl dX6_turns_104 ?_
          refine lv_iload_n hx hb dX6_turns_107 rfl (lv_at hl 1 rfl) ?_
          obtain ⟨hg_10, hF⟩ := ck_of hF
          refine kc_aald (y := fo) hx hb hK hP 1 1 rfl rfl (hfo hg_10) hg_10 dX6_turns_108 ?_
          refine va_getN (D := (dC, dI)) (ci := 1) (v := .ref (ga 1)) (C := RX1) (T := TX1) (N := 6) hx hb hts hinX1 hown hK hP 4 rfl rfl 0 (by decide) hf_73 (fun _ h9 => h9) rfl dX6_turns_109 ?_
          refine lv_aload_n hx hb dX6_turns_112 rfl (lv_at hl 0 rfl) ?_
          refine va_get (D := (dC, dI)) (ci := 4) (v := .ref (a 5)) (C := RX6) (T := TX6) (N := 8) hx hb hts hinX6 hown hK hP 0 rfl rfl 4 (by decide) hf_34 (fun _ h9 => h9) rfl dX6_turns_113 ?_
          refine lv_aload_n hx hb dX6_turns_116 rfl (lv_at hl 0 rfl) ?_
          refine va_get (D := (dC, dI)) (ci := 4) (v := .ref (a 6)) (C := RX6) (T := TX6) (N := 8) hx hb hts hinX6 hown hK hP 0 rfl rfl 5 (by decide) hf_37 (fun _ h9 => h9) rfl dX6_turns_117 ?_
          obtain ⟨turned_11, hc, hF⟩ := bd1_of hF
          refine sc_v (wf := (tuW cI cF h a fo ga fo2 gb held p_ fr givenRows_5 turned_11 f_disc f_turns f_num f2_disc f2_turns f2_num)) (va_runSN (As := [.ref (ga 1), .ref (a 5), .ref (a 6)]) (rest := []) ⟨hx, hb, hml, hown, hts⟩ (c_X4_turn l dC dI cI (ga 1) (a 5) 9 (a 6) fu H.size f_num givenRows_5 turned  turned_11 hc) ⟨va_cnB 3 hts g_X6_turns_X4_turn rfl rfl rfl (hN.2 (RX6, 110, yX4_turn, "KinForms") (by decide +kernel)) (hlk (.initialized RX4) (by decide +kernel)) (by decide +kernel) ⟨Nat.le_of_ble_eq_true rfl, Nat.le_of_ble_eq_true rfl⟩, hlk (.static yX4_turn) (by decide +kernel), trivial⟩ ⟨mPk_blind, mPk_at (hK.sub (tys' := [(cI, .int)]) [0] rfl) (hP.sub (ws' := (sW3 cI (ga 1) (a 5) 9 (a 6) f_num givenRows_5 turned)) [5, 2, 3] rfl) (hD.sub (ws' := (sW3 cI (ga 1) (a 5) 9 (a 6) f_num givenRows_5 turned)) [5, 2, 3] (by decide) rfl) hN⟩ rfl rfl hl.1 rfl (lv_room (Nat.le_of_ble_eq_true rfl)) dX6_turns_120 ⟨Nat.zero_le _, Nat.zero_le _⟩) hP hD hS hA [5, 2, 3] [0, 1, 4, 6, 7] rfl rfl rfl rfl rfl (by decide) (fun H locs hP hD hS => ?_)
          refine lv_aload_n hx hb dX6_turns_123 rfl (lv_at hl 0 rfl) ?_
          refine va_get (D := (dC, dI)) (ci := 4) (v := .ref (a 6)) (C := RX6) (T := TX6) (N := 8) hx hb hts hinX6 hown hK hP 0 rfl rfl 5 (by decide) hf_37 (fun _ h9 => h9) rfl dX6_turns_124 ?_
          refine lv_aload_n hx hb dX6_turns_127 rfl (lv_at hl 0 rfl) ?_
          refine va_get (D := (dC, dI)) (ci := 4) (v := .ref (a 1)) (C := RX6) (T := TX6) (N := 8) hx hb hts hinX6 hown hK hP 0 rfl rfl 0 (by decide) hf_11 (fun _ h9 => h9) rfl dX6_turns_128 ?_
          refine lv_iload_n hx hb dX6_turns_131 rfl (lv_at hl 2 rfl) ?_
          obtain ⟨hg_12, hF⟩ := ck_of hF
          refine kc_aald (y := fo2) hx hb hK hP 1 1 rfl rfl (hfo2 hg_12) hg_12 dX6_turns_132 ?_
          refine va_getN (D := (dC, dI)) (ci := 1) (v := .ref (gb 1)) (C := RX1) (T := TX1) (N := 6) hx hb hts hinX1 hown hK hP 6 rfl rfl 0 (by decide) hf_73 (fun _ h9 => h9) rfl dX6_turns_133 ?_
          obtain ⟨r_13, hc, hF⟩ := bd1_of hF
          refine rc_i (va_runSN (As := [.ref (a 6), .ref (gb 1)]) (rest := []) ⟨hx, hb, hml, hown, hts⟩ (c_X4_areAlike l dC dI cI (a 6) (gb 1) fu turned_11 f2_num  r_13 hc) ⟨va_cnB 2 hts g_X6_turns_X4_areAlike rfl rfl rfl (hN.2 (RX6, 95, yX4_areAlike, "KinForms") (by decide +kernel)) (hlk (.initialized RX4) (by decide +kernel)) (by decide +kernel) ⟨Nat.le_of_ble_eq_true rfl, Nat.le_of_ble_eq_true rfl⟩, hlk (.static yX4_areAlike) (by decide +kernel), trivial⟩ ⟨rPk_blind, rPk_at (hK.sub (tys' := [(cI, .int)]) [0] rfl) (hP.sub (ws' := (aW2 cI (a 6) (gb 1) turned_11 f2_num)) [3, 7] rfl) hN⟩ rfl rfl hl.1 rfl (lv_room (Nat.le_of_ble_eq_true rfl)) dX6_turns_136 ⟨Nat.zero_le _, Nat.zero_le _⟩) ?_
          obtain ⟨k147, e_k147, hF⟩ := nm_ex hF
          have hk147 : ∀ (s_14 : Int32) (H : Heap) (locs : List Loc) (ls : Array Slot), va_P (dC, dI) vwCl (tuW cI cF h a fo ga fo2 gb held p_ fr givenRows_5 turned_11 f_disc f_turns f_num f2_disc f2_turns f2_num) H → va_D A (tuW cI cF h a fo ga fo2 gb held p_ fr givenRows_5 turned_11 f_disc f_turns f_num f2_disc f2_turns f2_num) → va_S A s.heap H locs → lv_has ls 13 [] → k147 s_14 = some (ro, o_givenRows, o_turned) → W p l e rmX6_turns s m ([.ref h, .int p0, .int p1, .int p2, .int p3, .int p4, .int p5, .int p6, .int p7, .int p8, .int p9, .int p10] : List Value).toArray below meth c H locs 0 0 Q (F0 m 147 ls [.int s_14]) := by
            intro s_14 H locs ls hP hD hS hl hF
            have hF := ka1 e_k147 hF
            obtain ⟨q0, q1, q2⟩ := sm3 hF
            have hP : va_P (dC, dI) vwCl (tuW cI cF h a fo ga fo2 gb held p_ fr o_givenRows o_turned f_disc f_turns f_num f2_disc f2_turns f2_num) H := by rw [← q1, ← q2]; exact hP
            have hD : va_D A (tuW cI cF h a fo ga fo2 gb held p_ fr o_givenRows o_turned f_disc f_turns f_num f2_disc f2_turns f2_num) := by rw [← q1, ← q2]; exact hD
            refine W_Qe hQ ?_
            exact W.iret hx hb hr (fun t ht hW => ⟨⟨s_14, (), rfl, q0, by rw [ht]; exact hP, va_K.moved hW.alike hK, hD⟩, hS.F ht⟩) hS.2.2 dX6_turns_147
          clear e_k147
          refine lv_if_eq (tgt := 146) hx hb dX6_turns_139 (by decide) (fun c0 => ?_) (fun c0 => ?_)
          · have hF := if_t hF c0
            refine lv_iconst (v := 0) hx hb dX6_turns_146 (by decide) ?_
            exact hk147 (0 : Int32) H locs ls hP hD hS (lv_sub hl [] rfl) hF
          · have hF := if_f hF c0
            refine lv_iconst (v := 1) hx hb dX6_turns_142 (by decide) ?_
            refine lv_goto (tgt := 147) hx hb dX6_turns_143 (by decide) ?_
            exact hk147 (1 : Int32) H locs ls hP hD hS (lv_sub hl [] rfl) hF
        · have hF := if_t hF c0
          refine lv_iconst (v := 0) hx hb dX6_turns_101 (by decide) ?_
          obtain ⟨q0, q1, q2⟩ := sm3 hF
          have hP : va_P (dC, dI) vwCl (tuW cI cF h a fo ga fo2 gb held p_ fr o_givenRows o_turned f_disc f_turns f_num f2_disc f2_turns f2_num) H := by rw [← q1, ← q2]; exact hP
          have hD : va_D A (tuW cI cF h a fo ga fo2 gb held p_ fr o_givenRows o_turned f_disc f_turns f_num f2_disc f2_turns f2_num) := by rw [← q1, ← q2]; exact hD
          refine W_Qe hQ ?_
          exact W.iret hx hb hr (fun t ht hW => ⟨⟨(0 : Int32), (), rfl, q0, by rw [ht]; exact hP, va_K.moved hW.alike hK, hD⟩, hS.F ht⟩) hS.2.2 dX6_turns_102
      clear e_k87
      have hL54 : ∀ n : Nat, ∀ (x12_6 : Int32) (H : Heap) (locs : List Loc) (ls : Array Slot), va_P (dC, dI) vwCl (tuW cI cF h a fo ga fo2 gb held p_ fr givenRows_5 turned f_disc f_turns f_num f2_disc f2_turns f2_num) H → va_D A (tuW cI cF h a fo ga fo2 gb held p_ fr givenRows_5 turned f_disc f_turns f_num f2_disc f2_turns f2_num) → va_S A s.heap H locs → lv_has ls 13 [(0, .ref h), (1, .int p0), (2, .int p1), (12, .int x12_6)] → fX6_turns_L54 k87 givenRows_5 turned n x12_6 = some (ro, o_givenRows, o_turned) → W p l e rmX6_turns s m ([.ref h, .int p0, .int p1, .int p2, .int p3, .int p4, .int p5, .int p6, .int p7, .int p8, .int p9, .int p10] : List Value).toArray below meth c H locs 0 0 Q (F0 m 54 ls []) := by
        intro n
        induction n with
        | zero => intro x12_6 H locs ls hP hD hS hl hF; rw [fX6_turns_L54] at hF; cases hF
        | succ n ih54 =>
          intro x12_6 H locs ls hP hD hS hl hF
          rw [fX6_turns_L54] at hF
          refine lv_iload hx hb dX6_turns_54 (lv_at hl 3 rfl) ?_
          refine lv_bipush (v := (9)) hx hb dX6_turns_56 (by decide) ?_
          refine lv_icmp_ge (tgt := 87) hx hb dX6_turns_58 (by decide) (fun c0 => ?_) (fun c0 => ?_)
          · have hF := if_t hF c0
            exact hk87 H locs ls hP hD hS (lv_sub hl [0, 1, 2] rfl) hF
          · have hF := if_f hF c0
            refine lv_aload_n hx hb dX6_turns_61 rfl (lv_at hl 0 rfl) ?_
            refine va_get (D := (dC, dI)) (ci := 4) (v := .ref (a 5)) (C := RX6) (T := TX6) (N := 8) hx hb hts hinX6 hown hK hP 0 rfl rfl 4 (by decide) hf_34 (fun _ h9 => h9) rfl dX6_turns_62 ?_
            refine lv_iload hx hb dX6_turns_65 (lv_at hl 3 rfl) ?_
            obtain ⟨hi, hF⟩ := ck_of hF
            refine va_iald hx hb hK hP 2 0 rfl rfl hi dX6_turns_67 ?_
            refine lv_bipush (v := (-20)) hx hb dX6_turns_68 (by decide) ?_
            refine lv_bipush (v := (20)) hx hb dX6_turns_70 (by decide) ?_
            obtain ⟨r_7, hc, hF⟩ := bd1_of hF
            refine rc_i (va_runS (As := [.int (givenRows_5 x12_6.toNatClampNeg), .int (-20 : Int32), .int (20 : Int32)]) (rest := []) ⟨hx, hb, hml, hown, hts⟩ (c_X6_isOutside l (givenRows_5 x12_6.toNatClampNeg) (-20 : Int32) (20 : Int32) r_7 hc) (va_cwS 3 hts g_X6_turns_X6_isOutside rfl rfl rfl (by decide +kernel) ⟨Nat.le_of_ble_eq_true rfl, Nat.le_of_ble_eq_true rfl⟩) ⟨tPc_blind, tPc_at⟩ rfl rfl hl.1 rfl (lv_room (Nat.le_of_ble_eq_true rfl)) dX6_turns_72 ⟨Nat.zero_le _, Nat.zero_le _⟩) ?_
            refine lv_if_eq (tgt := 81) hx hb dX6_turns_75 (by decide) (fun c0 => ?_) (fun c0 => ?_)
            · have hF := if_t hF c0
              obtain ⟨x12_8, e_x12_8, hF⟩ := nm_ex hF
              refine lv_iinc (v := x12_8) (lv' := [(12, .int x12_8), (0, .ref h), (1, .int p0), (2, .int p1)]) hx hb dX6_turns_81 hl (k := 3) rfl (by rw [e_x12_8]; rfl) (by decide) rfl (fun ls hl => ?_)
              refine lv_goto (tgt := 54) hx hb dX6_turns_84 (by decide) ?_
              exact ih54 x12_8 H locs ls hP hD hS (lv_sub hl [1, 2, 3, 0] rfl) hF
            · have hF := if_f hF c0
              refine lv_ldc (v := (-100002)) hx hb hown (hlk (.constant RX6 57 (-100002)) (by decide +kernel)) dX6_turns_78 ?_
              obtain ⟨q0, q1, q2⟩ := sm3 hF
              have hP : va_P (dC, dI) vwCl (tuW cI cF h a fo ga fo2 gb held p_ fr o_givenRows o_turned f_disc f_turns f_num f2_disc f2_turns f2_num) H := by rw [← q1, ← q2]; exact hP
              have hD : va_D A (tuW cI cF h a fo ga fo2 gb held p_ fr o_givenRows o_turned f_disc f_turns f_num f2_disc f2_turns f2_num) := by rw [← q1, ← q2]; exact hD
              refine W_Qe hQ ?_
              exact W.iret hx hb hr (fun t ht hW => ⟨⟨(-100002 : Int32), (), rfl, q0, by rw [ht]; exact hP, va_K.moved hW.alike hK, hD⟩, hS.F ht⟩) hS.2.2 dX6_turns_80
      exact hL54 fu (0 : Int32) H locs ls hP hD hS (lv_sub hl [1, 2, 3, 0] rfl) hF
    · have hF := if_f hF c0
      exact hk16 H locs ls hP hD hS (lv_sub hl [] rfl) hF
def fX6_turnsB_L54 (k87 : Option (Int32 × (Nat → Int32) × (Nat → Int32))) (givenRows_5 : Nat → Int32) (turned : Nat → Int32) : Nat → (Int32) → Option (Int32 × (Nat → Int32) × (Nat → Int32))
  | 0, _ => none
  | n + 1, x12_6 => if (9 : Int32) ≤ x12_6 then ((k87)) else (if okI x12_6 9 then bd1 (fX6_isOutside (givenRows_5 x12_6.toNatClampNeg) (-20 : Int32) (20 : Int32)) (fun (r_7 : Int32) => if r_7 = 0 then (nm (x12_6 + (1 : Int32)) (fun (x12_8 : Int32) => (fX6_turnsB_L54 k87 givenRows_5 turned n x12_8))) else (some ((-100002 : Int32), givenRows_5, turned))) else none)
def fX6_turnsB (fu : Nat) (held : Int32) (givenRows : Nat → Int32) (turned : Nat → Int32) (f_num : Nat → Int32) (p0 : Int32) (p1 : Int32) (p2 : Int32) (p3 : Int32) (p4 : Int32) (p5 : Int32) (p6 : Int32) (p7 : Int32) (p8 : Int32) (p9 : Int32) (p10 : Int32) : Option (Int32 × (Nat → Int32) × (Nat → Int32)) :=
  bd1 (fX6_isUnknown held p0) (fun (r_1 : Int32) => nm (some ((-100001 : Int32), givenRows, turned)) (fun (k16 : Option (Int32 × (Nat → Int32) × (Nat → Int32))) => if r_1 = 0 then (bd1 (fX6_isUnknown held p1) (fun (r_2 : Int32) => if r_2 = 0 then (bd1 (fX6_giveRow givenRows (0 : Int32) p2 p3 p4) (fun (givenRows_3 : Nat → Int32) => bd1 (fX6_giveRow givenRows_3 (1 : Int32) p5 p6 p7) (fun (givenRows_4 : Nat → Int32) => bd1 (fX6_giveRow givenRows_4 (2 : Int32) p8 p9 p10) (fun (givenRows_5 : Nat → Int32) => nm (bd1 (fX6_areTable 9 givenRows_5 (0 : Int32) (3 : Int32) (6 : Int32)) (fun (r_9 : Int32) => if r_9 = 0 then (some ((0 : Int32), givenRows_5, turned)) else (if okI p0 12 then bd1 (fX4_turn fu 9 f_num givenRows_5 turned) (fun (turned_11 : Nat → Int32) => if okI p1 12 then bd1 (fX4_areAlike fu turned_11 f_num) (fun (r_13 : Int32) => nm (fun (s_14 : Int32) => some (s_14, givenRows_5, turned_11)) (fun (k147 : (Int32) → Option (Int32 × (Nat → Int32) × (Nat → Int32))) => if r_13 = 0 then ((k147 (0 : Int32))) else ((k147 (1 : Int32))))) else none) else none))) (fun (k87 : Option (Int32 × (Nat → Int32) × (Nat → Int32))) => (fX6_turnsB_L54 k87 givenRows_5 turned fu (0 : Int32))))))) else ((k16)))) else ((k16))))
set_option maxHeartbeats 4000000 in
set_option maxRecDepth 100000 in
theorem c_X6_turnsB (l : Launch) (dC : Nat → ClassId) (dI : Nat → Nat → Nat) (cI : ClassId) (cF : ClassId) (h : Nat) (a : Nat → Nat) (fo : Nat) (ga : Nat → Nat) (fu : Nat) (sz : Nat) (held : Int32) (p_ : Int32) (fr : Nat → Option Nat) (givenRows : Nat → Int32) (turned : Nat → Int32) (f_disc : Int32) (f_turns : Int32) (f_num : Nat → Int32) (p0 : Int32) (p1 : Int32) (p2 : Int32) (p3 : Int32) (p4 : Int32) (p5 : Int32) (p6 : Int32) (p7 : Int32) (p8 : Int32) (p9 : Int32) (p10 : Int32) (ro : Int32) (o_givenRows : Nat → Int32) (o_turned : Nat → Int32) (hfo : okI p0 12 → fr p0.toNatClampNeg = some fo) (hfo2 : okI p1 12 → fr p1.toNatClampNeg = some fo) (hF : fX6_turnsB fu held givenRows turned f_num p0 p1 p2 p3 p4 p5 p6 p7 p8 p9 p10 = some (ro, o_givenRows, o_turned)) : Met l yX6_turns vX6_turns rmX6_turns (va_Pc [.ref h, .int p0, .int p1, .int p2, .int p3, .int p4, .int p5, .int p6, .int p7, .int p8, .int p9, .int p10] (mPk (dC, dI) vwCl (tuWb cI cF h a fo ga held p_ fr givenRows turned f_disc f_turns f_num) [(cI, .int), (cF, .object "KinForms$Form")] sz)) (va_Qi (fun x (_ : Unit) => x = ro) (mPo (dC, dI) vwCl (tuWb cI cF h a fo ga held p_ fr o_givenRows o_turned f_disc f_turns f_num) [(cI, .int), (cF, .object "KinForms$Form")] (va_A (tuWb cI cF h a fo ga held p_ fr givenRows turned f_disc f_turns f_num) sz)) (va_A (tuWb cI cF h a fo ga held p_ fr givenRows turned f_disc f_turns f_num) sz)) 0 0 (va_A (tuWb cI cF h a fo ga held p_ fr givenRows turned f_disc f_turns f_num) sz) := by
  refine Met.ofW (cc := cX6_turns) (maxL := 13) (ret := (some .int)) (by decide) rfl ?_
  intro p e s m args below meth c s₁ B hml hv
  obtain ⟨rfl, hsz, hP, hK, hD0, hN⟩ := hv
  have hx := B.exec
  have hb := B.bytes
  have hr := B.returns
  have hts := atoms_spec (ws := vX6_turns) B.pre
  have hlk : ∀ w ∈ lkX6_turns, w.before _ s = true := fun w h => hts w (List.mem_cons_of_mem _ (List.mem_append_left _ h))
  have hown : s.vm.findClass RX6 = some m.cls := findClass_of_methodNamed B.named
  have hlocks := B.notSynchronized
  subst hsz
  have hD := hD0.self (sz := s.heap.size)
  generalize hAe : va_A (tuWb cI cF h a fo ga held p_ fr givenRows turned f_disc f_turns f_num) s.heap.size = A at hD ⊢
  have hA : ∀ q : Nat, s.heap.size ≤ q → A q := fun q h => by rw [← hAe]; exact Or.inr h
  have hS : va_S A s.heap s.heap [] := va_S.rf
  have hinX6 : ∀ w ∈ wsX60, w ∈ vX6_turns := fun w h => List.mem_cons_of_mem _ (List.mem_append_right _ (List.mem_append_left _ h))
  have hinX1 : ∀ w ∈ wsX10, w ∈ vX6_turns := fun w h => List.mem_cons_of_mem _ (List.mem_append_right _ (List.mem_append_right _ (List.mem_append_left _ h)))
  have hf_34 := hlk (.fieldLink RX6 34 "KinForms" "givenRows" "[I") (by decide +kernel)
  have hf_11 := hlk (.fieldLink RX6 11 "KinForms" "forms" "[LKinForms$Form;") (by decide +kernel)
  have hf_73 := va_Nw.use (A := ([.ref h, .int p0, .int p1, .int p2, .int p3, .int p4, .int p5, .int p6, .int p7, .int p8, .int p9, .int p10] : List Value).toArray) rfl (hN.1 (RX6, 73, "KinForms$Form", "numbers", "[I", "KinForms") (by decide +kernel))
  have hf_37 := hlk (.fieldLink RX6 37 "KinForms" "turned" "[I") (by decide +kernel)
  have hl := lv_entry ([.ref h, .int p0, .int p1, .int p2, .int p3, .int p4, .int p5, .int p6, .int p7, .int p8, .int p9, .int p10] : List Value) (n := 13) (Nat.le_of_ble_eq_true rfl)
  rw [lg_entry_eq]
  generalize (lg_sl ([.ref h, .int p0, .int p1, .int p2, .int p3, .int p4, .int p5, .int p6, .int p7, .int p8, .int p9, .int p10] : List Value) ++ List.replicate (13 - (lg_sl ([.ref h, .int p0, .int p1, .int p2, .int p3, .int p4, .int p5, .int p6, .int p7, .int p8, .int p9, .int p10] : List Value)).length) Slot.unset).toArray = ls at hl ⊢
  have hl : lv_has ls 13 [(0, .ref h), (1, .int p0), (2, .int p1), (3, .int p2), (4, .int p3), (5, .int p4), (6, .int p5), (7, .int p6), (8, .int p7), (9, .int p8), (10, .int p9), (11, .int p10)] := hl
  unfold fX6_turnsB at hF
  refine W_Q (fun Q hQ => ?_)
  have hP : va_P (dC, dI) vwCl (tuWb cI cF h a fo ga held p_ fr givenRows turned f_disc f_turns f_num) s.heap := hP
  refine W_HL (fun H locs eH eL => ?_)
  rw [← eH] at hP
  have hS : va_S A s.heap H locs := by rw [eH, eL]; exact hS
  refine lv_aload_n hx hb dX6_turns_0 rfl (lv_at hl 0 rfl) ?_
  refine lv_iload_n hx hb dX6_turns_1 rfl (lv_at hl 1 rfl) ?_
  obtain ⟨r_1, hc, hF⟩ := bd1_of hF
  refine rc_i (va_runV (As := [.int p0]) (rest := []) ⟨hx, hb, hml, hown, hts⟩ (c_X6_isUnknown l dC dI cI h a held p_ p0 r_1 hc) (cwV 1 hts g_X6_turns_X6_isUnknown rfl rfl rfl (by decide +kernel) ⟨Nat.le_of_ble_eq_true rfl, Nat.le_of_ble_eq_true rfl⟩) ⟨rPk_blind, va_recv hK hP (ci := 4) (q0 := 0) rfl rfl, rPk_at (hK.sub (tys' := [(cI, .int)]) [0] rfl) (hP.sub (ws' := (kW0 cI h a held p_)) [0] rfl) hN⟩ rfl rfl hl.1 rfl (lv_room (Nat.le_of_ble_eq_true rfl)) dX6_turns_2 ⟨Nat.zero_le _, Nat.zero_le _⟩) ?_
  obtain ⟨k16, e_k16, hF⟩ := nm_ex hF
  have hk16 : ∀  (H : Heap) (locs : List Loc) (ls : Array Slot), va_P (dC, dI) vwCl (tuWb cI cF h a fo ga held p_ fr givenRows turned f_disc f_turns f_num) H → va_D A (tuWb cI cF h a fo ga held p_ fr givenRows turned f_disc f_turns f_num) → va_S A s.heap H locs → lv_has ls 13 [] → k16 = some (ro, o_givenRows, o_turned) → W p l e rmX6_turns s m ([.ref h, .int p0, .int p1, .int p2, .int p3, .int p4, .int p5, .int p6, .int p7, .int p8, .int p9, .int p10] : List Value).toArray below meth c H locs 0 0 Q (F0 m 16 ls []) := by
    intro H locs ls hP hD hS hl hF
    have hF := ka0 e_k16 hF
    refine lv_ldc (v := (-100001)) hx hb hown (hlk (.constant RX6 67 (-100001)) (by decide +kernel)) dX6_turns_16 ?_
    obtain ⟨q0, q1, q2⟩ := sm3 hF
    have hP : va_P (dC, dI) vwCl (tuWb cI cF h a fo ga held p_ fr o_givenRows o_turned f_disc f_turns f_num) H := by rw [← q1, ← q2]; exact hP
    have hD : va_D A (tuWb cI cF h a fo ga held p_ fr o_givenRows o_turned f_disc f_turns f_num) := by rw [← q1, ← q2]; exact hD
    refine W_Qe hQ ?_
    exact W.iret hx hb hr (fun t ht hW => ⟨⟨(-100001 : Int32), (), rfl, q0, by rw [ht]; exact hP, va_K.moved hW.alike hK, hD⟩, hS.F ht⟩) hS.2.2 dX6_turns_18
  clear e_k16
  refine lv_if_ne (tgt := 16) hx hb dX6_turns_5 (by decide) (fun c0 => ?_) (fun c0 => ?_)
  · have hF := if_f hF c0
    exact hk16 H locs ls hP hD hS (lv_sub hl [] rfl) hF
  · have hF := if_t hF c0
    refine lv_aload_n hx hb dX6_turns_8 rfl (lv_at hl 0 rfl) ?_
    refine lv_iload_n hx hb dX6_turns_9 rfl (lv_at hl 2 rfl) ?_
    obtain ⟨r_2, hc, hF⟩ := bd1_of hF
    refine rc_i (va_runV (As := [.int p1]) (rest := []) ⟨hx, hb, hml, hown, hts⟩ (c_X6_isUnknown l dC dI cI h a held p_ p1 r_2 hc) (cwV 1 hts g_X6_turns_X6_isUnknown rfl rfl rfl (by decide +kernel) ⟨Nat.le_of_ble_eq_true rfl, Nat.le_of_ble_eq_true rfl⟩) ⟨rPk_blind, va_recv hK hP (ci := 4) (q0 := 0) rfl rfl, rPk_at (hK.sub (tys' := [(cI, .int)]) [0] rfl) (hP.sub (ws' := (kW0 cI h a held p_)) [0] rfl) hN⟩ rfl rfl hl.1 rfl (lv_room (Nat.le_of_ble_eq_true rfl)) dX6_turns_10 ⟨Nat.zero_le _, Nat.zero_le _⟩) ?_
    refine lv_if_eq (tgt := 19) hx hb dX6_turns_13 (by decide) (fun c0 => ?_) (fun c0 => ?_)
    · have hF := if_t hF c0
      refine lv_aload_n hx hb dX6_turns_19 rfl (lv_at hl 0 rfl) ?_
      refine lv_iconst (v := 0) hx hb dX6_turns_20 (by decide) ?_
      refine lv_iload_n hx hb dX6_turns_21 rfl (lv_at hl 3 rfl) ?_
      refine lv_iload hx hb dX6_turns_22 (lv_at hl 4 rfl) ?_
      refine lv_iload hx hb dX6_turns_24 (lv_at hl 5 rfl) ?_
      obtain ⟨givenRows_3, hc, hF⟩ := bd1_of hF
      refine sc_v (wf := (tuWb cI cF h a fo ga held p_ fr givenRows_3 turned f_disc f_turns f_num)) (va_runV (As := [.int (0 : Int32), .int p2, .int p3, .int p4]) (rest := []) ⟨hx, hb, hml, hown, hts⟩ (c_X6_giveRow l dC dI cI h a H.size held p_ givenRows (0 : Int32) p2 p3 p4 givenRows_3 hc) (cwV 4 hts g_X6_turns_X6_giveRow rfl rfl rfl (by decide +kernel) ⟨Nat.le_of_ble_eq_true rfl, Nat.le_of_ble_eq_true rfl⟩) ⟨mPk_blind, va_recv hK hP (ci := 4) (q0 := 0) rfl rfl, mPk_at (hK.sub (tys' := [(cI, .int)]) [0] rfl) (hP.sub (ws' := (kW5 cI h a held p_ givenRows)) [0, 2] rfl) (hD.sub (ws' := (kW5 cI h a held p_ givenRows)) [0, 2] (by decide) rfl) hN⟩ rfl rfl hl.1 rfl (lv_room (Nat.le_of_ble_eq_true rfl)) dX6_turns_26 ⟨Nat.zero_le _, Nat.zero_le _⟩) hP hD hS hA [0, 2] [1, 3, 4, 5] rfl rfl rfl rfl rfl (by decide) (fun H locs hP hD hS => ?_)
      refine lv_aload_n hx hb dX6_turns_29 rfl (lv_at hl 0 rfl) ?_
      refine lv_iconst (v := 1) hx hb dX6_turns_30 (by decide) ?_
      refine lv_iload hx hb dX6_turns_31 (lv_at hl 6 rfl) ?_
      refine lv_iload hx hb dX6_turns_33 (lv_at hl 7 rfl) ?_
      refine lv_iload hx hb dX6_turns_35 (lv_at hl 8 rfl) ?_
      obtain ⟨givenRows_4, hc, hF⟩ := bd1_of hF
      refine sc_v (wf := (tuWb cI cF h a fo ga held p_ fr givenRows_4 turned f_disc f_turns f_num)) (va_runV (As := [.int (1 : Int32), .int p5, .int p6, .int p7]) (rest := []) ⟨hx, hb, hml, hown, hts⟩ (c_X6_giveRow l dC dI cI h a H.size held p_ givenRows_3 (1 : Int32) p5 p6 p7 givenRows_4 hc) (cwV 4 hts g_X6_turns_X6_giveRow rfl rfl rfl (by decide +kernel) ⟨Nat.le_of_ble_eq_true rfl, Nat.le_of_ble_eq_true rfl⟩) ⟨mPk_blind, va_recv hK hP (ci := 4) (q0 := 0) rfl rfl, mPk_at (hK.sub (tys' := [(cI, .int)]) [0] rfl) (hP.sub (ws' := (kW5 cI h a held p_ givenRows_3)) [0, 2] rfl) (hD.sub (ws' := (kW5 cI h a held p_ givenRows_3)) [0, 2] (by decide) rfl) hN⟩ rfl rfl hl.1 rfl (lv_room (Nat.le_of_ble_eq_true rfl)) dX6_turns_37 ⟨Nat.zero_le _, Nat.zero_le _⟩) hP hD hS hA [0, 2] [1, 3, 4, 5] rfl rfl rfl rfl rfl (by decide) (fun H locs hP hD hS => ?_)
      refine lv_aload_n hx hb dX6_turns_40 rfl (lv_at hl 0 rfl) ?_
      refine lv_iconst (v := 2) hx hb dX6_turns_41 (by decide) ?_
      refine lv_iload hx hb dX6_turns_42 (lv_at hl 9 rfl) ?_
      refine lv_iload hx hb dX6_turns_44 (lv_at hl 10 rfl) ?_
      refine lv_iload hx hb dX6_turns_46 (lv_at hl 11 rfl) ?_
      obtain ⟨givenRows_5, hc, hF⟩ := bd1_of hF
      refine sc_v (wf := (tuWb cI cF h a fo ga held p_ fr givenRows_5 turned f_disc f_turns f_num)) (va_runV (As := [.int (2 : Int32), .int p8, .int p9, .int p10]) (rest := []) ⟨hx, hb, hml, hown, hts⟩ (c_X6_giveRow l dC dI cI h a H.size held p_ givenRows_4 (2 : Int32) p8 p9 p10 givenRows_5 hc) (cwV 4 hts g_X6_turns_X6_giveRow rfl rfl rfl (by decide +kernel) ⟨Nat.le_of_ble_eq_true rfl, Nat.le_of_ble_eq_true rfl⟩) ⟨mPk_blind, va_recv hK hP (ci := 4) (q0 := 0) rfl rfl, mPk_at (hK.sub (tys' := [(cI, .int)]) [0] rfl) (hP.sub (ws' := (kW5 cI h a held p_ givenRows_4)) [0, 2] rfl) (hD.sub (ws' := (kW5 cI h a held p_ givenRows_4)) [0, 2] (by decide) rfl) hN⟩ rfl rfl hl.1 rfl (lv_room (Nat.le_of_ble_eq_true rfl)) dX6_turns_48 ⟨Nat.zero_le _, Nat.zero_le _⟩) hP hD hS hA [0, 2] [1, 3, 4, 5] rfl rfl rfl rfl rfl (by decide) (fun H locs hP hD hS => ?_)
      refine lv_iconst (v := 0) hx hb dX6_turns_51 (by decide) ?_
      refine lv_istore (lv' := [(12, .int (0 : Int32)), (0, .ref h), (1, .int p0), (2, .int p1), (3, .int p2), (4, .int p3), (5, .int p4), (6, .int p5), (7, .int p6), (8, .int p7), (9, .int p8), (10, .int p9), (11, .int p10)]) hx hb dX6_turns_52 hl (by decide) rfl (fun ls hl => ?_)
      obtain ⟨k87, e_k87, hF⟩ := nm_ex hF
      have hk87 : ∀  (H : Heap) (locs : List Loc) (ls : Array Slot), va_P (dC, dI) vwCl (tuWb cI cF h a fo ga held p_ fr givenRows_5 turned f_disc f_turns f_num) H → va_D A (tuWb cI cF h a fo ga held p_ fr givenRows_5 turned f_disc f_turns f_num) → va_S A s.heap H locs → lv_has ls 13 [(0, .ref h), (1, .int p0), (2, .int p1)] → k87 = some (ro, o_givenRows, o_turned) → W p l e rmX6_turns s m ([.ref h, .int p0, .int p1, .int p2, .int p3, .int p4, .int p5, .int p6, .int p7, .int p8, .int p9, .int p10] : List Value).toArray below meth c H locs 0 0 Q (F0 m 87 ls []) := by
        intro H locs ls hP hD hS hl hF
        have hF := ka0 e_k87 hF
        refine lv_aload_n hx hb dX6_turns_87 rfl (lv_at hl 0 rfl) ?_
        refine va_get (D := (dC, dI)) (ci := 4) (v := .ref (a 5)) (C := RX6) (T := TX6) (N := 8) hx hb hts hinX6 hown hK hP 0 rfl rfl 4 (by decide) hf_34 (fun _ h9 => h9) rfl dX6_turns_88 ?_
        refine lv_iconst (v := 0) hx hb dX6_turns_91 (by decide) ?_
        refine lv_iconst (v := 3) hx hb dX6_turns_92 (by decide) ?_
        refine lv_bipush (v := (6)) hx hb dX6_turns_93 (by decide) ?_
        obtain ⟨r_9, hc, hF⟩ := bd1_of hF
        refine rc_i (va_runS (As := [.ref (a 5), .int (0 : Int32), .int (3 : Int32), .int (6 : Int32)]) (rest := []) ⟨hx, hb, hml, hown, hts⟩ (c_X6_areTable l dC dI cI (a 5) 9 givenRows_5 (0 : Int32) (3 : Int32) (6 : Int32) r_9 hc) (va_cwS 4 hts g_X6_turns_X6_areTable rfl rfl rfl (by decide +kernel) ⟨Nat.le_of_ble_eq_true rfl, Nat.le_of_ble_eq_true rfl⟩) ⟨rPk_blind, rPk_at (hK.sub (tys' := [(cI, .int)]) [0] rfl) (hP.sub (ws' := (tW1 cI (a 5) 9 givenRows_5)) [2] rfl) hN⟩ rfl rfl hl.1 rfl (lv_room (Nat.le_of_ble_eq_true rfl)) dX6_turns_95 ⟨Nat.zero_le _, Nat.zero_le _⟩) ?_
        refine lv_if_ne (tgt := 103) hx hb dX6_turns_98 (by decide) (fun c0 => ?_) (fun c0 => ?_)
        · have hF := if_f hF c0
          refine lv_aload_n hx hb dX6_turns_103 rfl (lv_at hl 0 rfl) ?_
          refine va_get (D := (dC, dI)) (ci := 4) (v := .ref (a 1)) (C := RX6) (T := TX6) (N := 8) hx hb hts hinX6 hown hK hP 0 rfl rfl 0 (by decide) hf_11 (fun _ h9 => h9) rfl dX6_turns_104 ?_
          refine lv_iload_n hx hb dX6_turns_107 rfl (lv_at hl 1 rfl) ?_
          obtain ⟨hg_10, hF⟩ := ck_of hF
          refine kc_aald (y := fo) hx hb hK hP 1 1 rfl rfl (hfo hg_10) hg_10 dX6_turns_108 ?_
          refine va_getN (D := (dC, dI)) (ci := 1) (v := .ref (ga 1)) (C := RX1) (T := TX1) (N := 6) hx hb hts hinX1 hown hK hP 4 rfl rfl 0 (by decide) hf_73 (fun _ h9 => h9) rfl dX6_turns_109 ?_
          refine lv_aload_n hx hb dX6_turns_112 rfl (lv_at hl 0 rfl) ?_
          refine va_get (D := (dC, dI)) (ci := 4) (v := .ref (a 5)) (C := RX6) (T := TX6) (N := 8) hx hb hts hinX6 hown hK hP 0 rfl rfl 4 (by decide) hf_34 (fun _ h9 => h9) rfl dX6_turns_113 ?_
          refine lv_aload_n hx hb dX6_turns_116 rfl (lv_at hl 0 rfl) ?_
          refine va_get (D := (dC, dI)) (ci := 4) (v := .ref (a 6)) (C := RX6) (T := TX6) (N := 8) hx hb hts hinX6 hown hK hP 0 rfl rfl 5 (by decide) hf_37 (fun _ h9 => h9) rfl dX6_turns_117 ?_
          obtain ⟨turned_11, hc, hF⟩ := bd1_of hF
          refine sc_v (wf := (tuWb cI cF h a fo ga held p_ fr givenRows_5 turned_11 f_disc f_turns f_num)) (va_runSN (As := [.ref (ga 1), .ref (a 5), .ref (a 6)]) (rest := []) ⟨hx, hb, hml, hown, hts⟩ (c_X4_turn l dC dI cI (ga 1) (a 5) 9 (a 6) fu H.size f_num givenRows_5 turned  turned_11 hc) ⟨va_cnB 3 hts g_X6_turns_X4_turn rfl rfl rfl (hN.2 (RX6, 110, yX4_turn, "KinForms") (by decide +kernel)) (hlk (.initialized RX4) (by decide +kernel)) (by decide +kernel) ⟨Nat.le_of_ble_eq_true rfl, Nat.le_of_ble_eq_true rfl⟩, hlk (.static yX4_turn) (by decide +kernel), trivial⟩ ⟨mPk_blind, mPk_at (hK.sub (tys' := [(cI, .int)]) [0] rfl) (hP.sub (ws' := (sW3 cI (ga 1) (a 5) 9 (a 6) f_num givenRows_5 turned)) [5, 2, 3] rfl) (hD.sub (ws' := (sW3 cI (ga 1) (a 5) 9 (a 6) f_num givenRows_5 turned)) [5, 2, 3] (by decide) rfl) hN⟩ rfl rfl hl.1 rfl (lv_room (Nat.le_of_ble_eq_true rfl)) dX6_turns_120 ⟨Nat.zero_le _, Nat.zero_le _⟩) hP hD hS hA [5, 2, 3] [0, 1, 4] rfl rfl rfl rfl rfl (by decide) (fun H locs hP hD hS => ?_)
          refine lv_aload_n hx hb dX6_turns_123 rfl (lv_at hl 0 rfl) ?_
          refine va_get (D := (dC, dI)) (ci := 4) (v := .ref (a 6)) (C := RX6) (T := TX6) (N := 8) hx hb hts hinX6 hown hK hP 0 rfl rfl 5 (by decide) hf_37 (fun _ h9 => h9) rfl dX6_turns_124 ?_
          refine lv_aload_n hx hb dX6_turns_127 rfl (lv_at hl 0 rfl) ?_
          refine va_get (D := (dC, dI)) (ci := 4) (v := .ref (a 1)) (C := RX6) (T := TX6) (N := 8) hx hb hts hinX6 hown hK hP 0 rfl rfl 0 (by decide) hf_11 (fun _ h9 => h9) rfl dX6_turns_128 ?_
          refine lv_iload_n hx hb dX6_turns_131 rfl (lv_at hl 2 rfl) ?_
          obtain ⟨hg_12, hF⟩ := ck_of hF
          refine kc_aald (y := fo) hx hb hK hP 1 1 rfl rfl (hfo2 hg_12) hg_12 dX6_turns_132 ?_
          refine va_getN (D := (dC, dI)) (ci := 1) (v := .ref (ga 1)) (C := RX1) (T := TX1) (N := 6) hx hb hts hinX1 hown hK hP 4 rfl rfl 0 (by decide) hf_73 (fun _ h9 => h9) rfl dX6_turns_133 ?_
          obtain ⟨r_13, hc, hF⟩ := bd1_of hF
          refine rc_i (va_runSN (As := [.ref (a 6), .ref (ga 1)]) (rest := []) ⟨hx, hb, hml, hown, hts⟩ (c_X4_areAlike l dC dI cI (a 6) (ga 1) fu turned_11 f_num  r_13 hc) ⟨va_cnB 2 hts g_X6_turns_X4_areAlike rfl rfl rfl (hN.2 (RX6, 95, yX4_areAlike, "KinForms") (by decide +kernel)) (hlk (.initialized RX4) (by decide +kernel)) (by decide +kernel) ⟨Nat.le_of_ble_eq_true rfl, Nat.le_of_ble_eq_true rfl⟩, hlk (.static yX4_areAlike) (by decide +kernel), trivial⟩ ⟨rPk_blind, rPk_at (hK.sub (tys' := [(cI, .int)]) [0] rfl) (hP.sub (ws' := (aW2 cI (a 6) (ga 1) turned_11 f_num)) [3, 5] rfl) hN⟩ rfl rfl hl.1 rfl (lv_room (Nat.le_of_ble_eq_true rfl)) dX6_turns_136 ⟨Nat.zero_le _, Nat.zero_le _⟩) ?_
          obtain ⟨k147, e_k147, hF⟩ := nm_ex hF
          have hk147 : ∀ (s_14 : Int32) (H : Heap) (locs : List Loc) (ls : Array Slot), va_P (dC, dI) vwCl (tuWb cI cF h a fo ga held p_ fr givenRows_5 turned_11 f_disc f_turns f_num) H → va_D A (tuWb cI cF h a fo ga held p_ fr givenRows_5 turned_11 f_disc f_turns f_num) → va_S A s.heap H locs → lv_has ls 13 [] → k147 s_14 = some (ro, o_givenRows, o_turned) → W p l e rmX6_turns s m ([.ref h, .int p0, .int p1, .int p2, .int p3, .int p4, .int p5, .int p6, .int p7, .int p8, .int p9, .int p10] : List Value).toArray below meth c H locs 0 0 Q (F0 m 147 ls [.int s_14]) := by
            intro s_14 H locs ls hP hD hS hl hF
            have hF := ka1 e_k147 hF
            obtain ⟨q0, q1, q2⟩ := sm3 hF
            have hP : va_P (dC, dI) vwCl (tuWb cI cF h a fo ga held p_ fr o_givenRows o_turned f_disc f_turns f_num) H := by rw [← q1, ← q2]; exact hP
            have hD : va_D A (tuWb cI cF h a fo ga held p_ fr o_givenRows o_turned f_disc f_turns f_num) := by rw [← q1, ← q2]; exact hD
            refine W_Qe hQ ?_
            exact W.iret hx hb hr (fun t ht hW => ⟨⟨s_14, (), rfl, q0, by rw [ht]; exact hP, va_K.moved hW.alike hK, hD⟩, hS.F ht⟩) hS.2.2 dX6_turns_147
          clear e_k147
          refine lv_if_eq (tgt := 146) hx hb dX6_turns_139 (by decide) (fun c0 => ?_) (fun c0 => ?_)
          · have hF := if_t hF c0
            refine lv_iconst (v := 0) hx hb dX6_turns_146 (by decide) ?_
            exact hk147 (0 : Int32) H locs ls hP hD hS (lv_sub hl [] rfl) hF
          · have hF := if_f hF c0
            refine lv_iconst (v := 1) hx hb dX6_turns_142 (by decide) ?_
            refine lv_goto (tgt := 147) hx hb dX6_turns_143 (by decide) ?_
            exact hk147 (1 : Int32) H locs ls hP hD hS (lv_sub hl [] rfl) hF
        · have hF := if_t hF c0
          refine lv_iconst (v := 0) hx hb dX6_turns_101 (by decide) ?_
          obtain ⟨q0, q1, q2⟩ := sm3 hF
          have hP : va_P (dC, dI) vwCl (tuWb cI cF h a fo ga held p_ fr o_givenRows o_turned f_disc f_turns f_num) H := by rw [← q1, ← q2]; exact hP
          have hD : va_D A (tuWb cI cF h a fo ga held p_ fr o_givenRows o_turned f_disc f_turns f_num) := by rw [← q1, ← q2]; exact hD
          refine W_Qe hQ ?_
          exact W.iret hx hb hr (fun t ht hW => ⟨⟨(0 : Int32), (), rfl, q0, by rw [ht]; exact hP, va_K.moved hW.alike hK, hD⟩, hS.F ht⟩) hS.2.2 dX6_turns_102
      clear e_k87
      have hL54 : ∀ n : Nat, ∀ (x12_6 : Int32) (H : Heap) (locs : List Loc) (ls : Array Slot), va_P (dC, dI) vwCl (tuWb cI cF h a fo ga held p_ fr givenRows_5 turned f_disc f_turns f_num) H → va_D A (tuWb cI cF h a fo ga held p_ fr givenRows_5 turned f_disc f_turns f_num) → va_S A s.heap H locs → lv_has ls 13 [(0, .ref h), (1, .int p0), (2, .int p1), (12, .int x12_6)] → fX6_turnsB_L54 k87 givenRows_5 turned n x12_6 = some (ro, o_givenRows, o_turned) → W p l e rmX6_turns s m ([.ref h, .int p0, .int p1, .int p2, .int p3, .int p4, .int p5, .int p6, .int p7, .int p8, .int p9, .int p10] : List Value).toArray below meth c H locs 0 0 Q (F0 m 54 ls []) := by
        intro n
        induction n with
        | zero => intro x12_6 H locs ls hP hD hS hl hF; rw [fX6_turnsB_L54] at hF; cases hF
        | succ n ih54 =>
          intro x12_6 H locs ls hP hD hS hl hF
          rw [fX6_turnsB_L54] at hF
          refine lv_iload hx hb dX6_turns_54 (lv_at hl 3 rfl) ?_
          refine lv_bipush (v := (9)) hx hb dX6_turns_56 (by decide) ?_
          refine lv_icmp_ge (tgt := 87) hx hb dX6_turns_58 (by decide) (fun c0 => ?_) (fun c0 => ?_)
          · have hF := if_t hF c0
            exact hk87 H locs ls hP hD hS (lv_sub hl [0, 1, 2] rfl) hF
          · have hF := if_f hF c0
            refine lv_aload_n hx hb dX6_turns_61 rfl (lv_at hl 0 rfl) ?_
            refine va_get (D := (dC, dI)) (ci := 4) (v := .ref (a 5)) (C := RX6) (T := TX6) (N := 8) hx hb hts hinX6 hown hK hP 0 rfl rfl 4 (by decide) hf_34 (fun _ h9 => h9) rfl dX6_turns_62 ?_
            refine lv_iload hx hb dX6_turns_65 (lv_at hl 3 rfl) ?_
            obtain ⟨hi, hF⟩ := ck_of hF
            refine va_iald hx hb hK hP 2 0 rfl rfl hi dX6_turns_67 ?_
            refine lv_bipush (v := (-20)) hx hb dX6_turns_68 (by decide) ?_
            refine lv_bipush (v := (20)) hx hb dX6_turns_70 (by decide) ?_
            obtain ⟨r_7, hc, hF⟩ := bd1_of hF
            refine rc_i (va_runS (As := [.int (givenRows_5 x12_6.toNatClampNeg), .int (-20 : Int32), .int (20 : Int32)]) (rest := []) ⟨hx, hb, hml, hown, hts⟩ (c_X6_isOutside l (givenRows_5 x12_6.toNatClampNeg) (-20 : Int32) (20 : Int32) r_7 hc) (va_cwS 3 hts g_X6_turns_X6_isOutside rfl rfl rfl (by decide +kernel) ⟨Nat.le_of_ble_eq_true rfl, Nat.le_of_ble_eq_true rfl⟩) ⟨tPc_blind, tPc_at⟩ rfl rfl hl.1 rfl (lv_room (Nat.le_of_ble_eq_true rfl)) dX6_turns_72 ⟨Nat.zero_le _, Nat.zero_le _⟩) ?_
            refine lv_if_eq (tgt := 81) hx hb dX6_turns_75 (by decide) (fun c0 => ?_) (fun c0 => ?_)
            · have hF := if_t hF c0
              obtain ⟨x12_8, e_x12_8, hF⟩ := nm_ex hF
              refine lv_iinc (v := x12_8) (lv' := [(12, .int x12_8), (0, .ref h), (1, .int p0), (2, .int p1)]) hx hb dX6_turns_81 hl (k := 3) rfl (by rw [e_x12_8]; rfl) (by decide) rfl (fun ls hl => ?_)
              refine lv_goto (tgt := 54) hx hb dX6_turns_84 (by decide) ?_
              exact ih54 x12_8 H locs ls hP hD hS (lv_sub hl [1, 2, 3, 0] rfl) hF
            · have hF := if_f hF c0
              refine lv_ldc (v := (-100002)) hx hb hown (hlk (.constant RX6 57 (-100002)) (by decide +kernel)) dX6_turns_78 ?_
              obtain ⟨q0, q1, q2⟩ := sm3 hF
              have hP : va_P (dC, dI) vwCl (tuWb cI cF h a fo ga held p_ fr o_givenRows o_turned f_disc f_turns f_num) H := by rw [← q1, ← q2]; exact hP
              have hD : va_D A (tuWb cI cF h a fo ga held p_ fr o_givenRows o_turned f_disc f_turns f_num) := by rw [← q1, ← q2]; exact hD
              refine W_Qe hQ ?_
              exact W.iret hx hb hr (fun t ht hW => ⟨⟨(-100002 : Int32), (), rfl, q0, by rw [ht]; exact hP, va_K.moved hW.alike hK, hD⟩, hS.F ht⟩) hS.2.2 dX6_turns_80
      exact hL54 fu (0 : Int32) H locs ls hP hD hS (lv_sub hl [1, 2, 3, 0] rfl) hF
    · have hF := if_f hF c0
      exact hk16 H locs ls hP hD hS (lv_sub hl [] rfl) hF
def fX6_line (fu : Nat) (held : Int32) (p_ : Int32) (f_disc : Int32) (f_num : Nat → Int32) (l_found : Int32) (l_p : Int32) (l_t : Int32) (l_u : Int32) (l_six : Nat → Int32) (l_all : Nat → Int32) (l_w : Nat → Int32) (p0 : Int32) (p1 : Int32) (p2 : Int32) : Option (Int32 × (Int32) × (Int32) × (Int32) × (Int32) × (Nat → Int32) × (Nat → Int32) × (Nat → Int32)) :=
  bd1 (fX6_refusalOfLine held p_ f_disc p0 p1 p2 (4 : Int32)) (fun (r_1 : Int32) => if r_1 = 0 then (if okI p0 12 then bd4 (fX2_find fu l_six l_all f_num p_) (fun (l_found_3 : Int32) (l_p_4 : Int32) (l_six_5 : Nat → Int32) (l_all_6 : Nat → Int32) => bd3 (fX2_choose fu l_p_4 l_six_5 l_all_6 l_w p1) (fun (l_t_7 : Int32) (l_u_8 : Int32) (l_w_9 : Nat → Int32) => if (3 : Int32) ≤ p2 then (nm (fun (s_10 : Int32) => some (s_10, l_found_3, l_p_4, l_t_7, l_u_8, l_six_5, l_all_6, l_w_9)) (fun (k83 : (Int32) → Option (Int32 × (Int32) × (Int32) × (Int32) × (Int32) × (Nat → Int32) × (Nat → Int32) × (Nat → Int32))) => if p2 = (3 : Int32) then ((k83 l_t_7)) else ((k83 l_u_8)))) else (bd1 (fX2_part l_all_6 p1 p2) (fun (r_11 : Int32) => some (r_11, l_found_3, l_p_4, l_t_7, l_u_8, l_six_5, l_all_6, l_w_9))))) else none) else (some (r_1, l_found, l_p, l_t, l_u, l_six, l_all, l_w)))
def lkX6_line : List Cond := [.initialized RX2, .instanceMethod yX2_find, .selects RX2 yX2_find yX2_find, .instanceMethod yX2_choose, .selects RX2 yX2_choose yX2_choose, .instanceMethod yX2_part, .selects RX2 yX2_part yX2_part, .fieldLink RX6 26 "KinForms" "lines" "LKinForms$Lines;", .fieldLink RX6 11 "KinForms" "forms" "[LKinForms$Form;", .fieldLink RX6 44 "KinForms" "p" "I"]
def vX6_line : List Cond := .code yX6_line cX6_line 5 (some .int) :: (lkX6_line ++ (wsX60 ++ (wsX10 ++ (wsX20 ++ (wsV RX6 114 RX6 yX6_refusalOfLine vX6_refusalOfLine ++ (vX2_find ++ (vX2_choose ++ (vX2_part ++ ([])))))))))
theorem q_X6_line : ∀ w ∈ vX6_line, goodWord w = true := gd_cons rfl (gd_app (by decide +kernel) (gd_app q_wsX60 (gd_app q_wsX10 (gd_app q_wsX20 (gd_app (gd_V q_X6_refusalOfLine) (gd_app q_X2_find (gd_app q_X2_choose (gd_app q_X2_part gd_nil))))))))
theorem g_X6_line_X6_refusalOfLine : GoodIn vX6_line (wsV RX6 114 RX6 yX6_refusalOfLine vX6_refusalOfLine) := gi_of (fun w h => List.mem_cons_of_mem _ (List.mem_append_right _ (List.mem_append_right _ (List.mem_append_right _ (List.mem_append_right _ (List.mem_append_left _ h)))))) (gd_V q_X6_refusalOfLine)
theorem g_X6_line_X2_find : GoodIn vX6_line (vX2_find) := gi_of (fun w h => List.mem_cons_of_mem _ (List.mem_append_right _ (List.mem_append_right _ (List.mem_append_right _ (List.mem_append_right _ (List.mem_append_right _ (List.mem_append_left _ h))))))) q_X2_find
theorem g_X6_line_X2_choose : GoodIn vX6_line (vX2_choose) := gi_of (fun w h => List.mem_cons_of_mem _ (List.mem_append_right _ (List.mem_append_right _ (List.mem_append_right _ (List.mem_append_right _ (List.mem_append_right _ (List.mem_append_right _ (List.mem_append_left _ h)))))))) q_X2_choose
theorem g_X6_line_X2_part : GoodIn vX6_line (vX2_part) := gi_of (fun w h => List.mem_cons_of_mem _ (List.mem_append_right _ (List.mem_append_right _ (List.mem_append_right _ (List.mem_append_right _ (List.mem_append_right _ (List.mem_append_right _ (List.mem_append_right _ (List.mem_append_left _ h))))))))) q_X2_part
abbrev rmX6_line : Room := { frames := 3, cells := 0, slots := 0, locals := 70 }
set_option maxHeartbeats 4000000 in
set_option maxRecDepth 100000 in
theorem c_X6_line (l : Launch) (dC : Nat → ClassId) (dI : Nat → Nat → Nat) (cI : ClassId) (cF : ClassId) (h : Nat) (a : Nat → Nat) (fo : Nat) (ga : Nat → Nat) (la : Nat → Nat) (fu : Nat) (sz : Nat) (held : Int32) (p_ : Int32) (fr : Nat → Option Nat) (f_disc : Int32) (f_turns : Int32) (f_num : Nat → Int32) (l_found : Int32) (l_p : Int32) (l_t : Int32) (l_u : Int32) (l_six : Nat → Int32) (l_all : Nat → Int32) (l_w : Nat → Int32) (l_basis : Nat → Int32) (l_crossed : Nat → Int32) (p0 : Int32) (p1 : Int32) (p2 : Int32) (ro : Int32) (o_l_found : Int32) (o_l_p : Int32) (o_l_t : Int32) (o_l_u : Int32) (o_l_six : Nat → Int32) (o_l_all : Nat → Int32) (o_l_w : Nat → Int32) (hfo : okI p0 12 → fr p0.toNatClampNeg = some fo) (hF : fX6_line fu held p_ f_disc f_num l_found l_p l_t l_u l_six l_all l_w p0 p1 p2 = some (ro, o_l_found, o_l_p, o_l_t, o_l_u, o_l_six, o_l_all, o_l_w)) : Met l yX6_line vX6_line rmX6_line (va_Pc [.ref h, .int p0, .int p1, .int p2] (mPk (dC, dI) vwCl (liW cI cF h a fo ga la held p_ fr f_disc f_turns f_num l_found l_p l_t l_u l_six l_all l_w l_basis l_crossed) [(cI, .int), (cF, .object "KinForms$Form")] sz)) (va_Qi (fun x (_ : Unit) => x = ro) (mPo (dC, dI) vwCl (liW cI cF h a fo ga la held p_ fr f_disc f_turns f_num o_l_found o_l_p o_l_t o_l_u o_l_six o_l_all o_l_w l_basis l_crossed) [(cI, .int), (cF, .object "KinForms$Form")] (va_A (liW cI cF h a fo ga la held p_ fr f_disc f_turns f_num l_found l_p l_t l_u l_six l_all l_w l_basis l_crossed) sz)) (va_A (liW cI cF h a fo ga la held p_ fr f_disc f_turns f_num l_found l_p l_t l_u l_six l_all l_w l_basis l_crossed) sz)) 0 0 (va_A (liW cI cF h a fo ga la held p_ fr f_disc f_turns f_num l_found l_p l_t l_u l_six l_all l_w l_basis l_crossed) sz) := by
  refine Met.ofW (cc := cX6_line) (maxL := 5) (ret := (some .int)) (by decide) rfl ?_
  intro p e s m args below meth c s₁ B hml hv
  obtain ⟨rfl, hsz, hP, hK, hD0, hN⟩ := hv
  have hx := B.exec
  have hb := B.bytes
  have hr := B.returns
  have hts := atoms_spec (ws := vX6_line) B.pre
  have hlk : ∀ w ∈ lkX6_line, w.before _ s = true := fun w h => hts w (List.mem_cons_of_mem _ (List.mem_append_left _ h))
  have hown : s.vm.findClass RX6 = some m.cls := findClass_of_methodNamed B.named
  have hlocks := B.notSynchronized
  subst hsz
  have hD := hD0.self (sz := s.heap.size)
  generalize hAe : va_A (liW cI cF h a fo ga la held p_ fr f_disc f_turns f_num l_found l_p l_t l_u l_six l_all l_w l_basis l_crossed) s.heap.size = A at hD ⊢
  have hA : ∀ q : Nat, s.heap.size ≤ q → A q := fun q h => by rw [← hAe]; exact Or.inr h
  have hS : va_S A s.heap s.heap [] := va_S.rf
  have hinX6 : ∀ w ∈ wsX60, w ∈ vX6_line := fun w h => List.mem_cons_of_mem _ (List.mem_append_right _ (List.mem_append_left _ h))
  have hinX1 : ∀ w ∈ wsX10, w ∈ vX6_line := fun w h => List.mem_cons_of_mem _ (List.mem_append_right _ (List.mem_append_right _ (List.mem_append_left _ h)))
  have hinX2 : ∀ w ∈ wsX20, w ∈ vX6_line := fun w h => List.mem_cons_of_mem _ (List.mem_append_right _ (List.mem_append_right _ (List.mem_append_right _ (List.mem_append_left _ h))))
  have hf_26 := hlk (.fieldLink RX6 26 "KinForms" "lines" "LKinForms$Lines;") (by decide +kernel)
  have hf_11 := hlk (.fieldLink RX6 11 "KinForms" "forms" "[LKinForms$Form;") (by decide +kernel)
  have hf_73 := va_Nw.use (A := ([.ref h, .int p0, .int p1, .int p2] : List Value).toArray) rfl (hN.1 (RX6, 73, "KinForms$Form", "numbers", "[I", "KinForms") (by decide +kernel))
  have hf_44 := hlk (.fieldLink RX6 44 "KinForms" "p" "I") (by decide +kernel)
  have hf_133 := va_Nw.use (A := ([.ref h, .int p0, .int p1, .int p2] : List Value).toArray) rfl (hN.1 (RX6, 133, "KinForms$Lines", "u", "I", "KinForms") (by decide +kernel))
  have hf_130 := va_Nw.use (A := ([.ref h, .int p0, .int p1, .int p2] : List Value).toArray) rfl (hN.1 (RX6, 130, "KinForms$Lines", "t", "I", "KinForms") (by decide +kernel))
  have hl := lv_entry ([.ref h, .int p0, .int p1, .int p2] : List Value) (n := 5) (Nat.le_of_ble_eq_true rfl)
  rw [lg_entry_eq]
  generalize (lg_sl ([.ref h, .int p0, .int p1, .int p2] : List Value) ++ List.replicate (5 - (lg_sl ([.ref h, .int p0, .int p1, .int p2] : List Value)).length) Slot.unset).toArray = ls at hl ⊢
  have hl : lv_has ls 5 [(0, .ref h), (1, .int p0), (2, .int p1), (3, .int p2)] := hl
  unfold fX6_line at hF
  refine W_Q (fun Q hQ => ?_)
  have hP : va_P (dC, dI) vwCl (liW cI cF h a fo ga la held p_ fr f_disc f_turns f_num l_found l_p l_t l_u l_six l_all l_w l_basis l_crossed) s.heap := hP
  refine W_HL (fun H locs eH eL => ?_)
  rw [← eH] at hP
  have hS : va_S A s.heap H locs := by rw [eH, eL]; exact hS
  refine lv_aload_n hx hb dX6_line_0 rfl (lv_at hl 0 rfl) ?_
  refine lv_iload_n hx hb dX6_line_1 rfl (lv_at hl 1 rfl) ?_
  refine lv_iload_n hx hb dX6_line_2 rfl (lv_at hl 2 rfl) ?_
  refine lv_iload_n hx hb dX6_line_3 rfl (lv_at hl 3 rfl) ?_
  refine lv_iconst (v := 4) hx hb dX6_line_4 (by decide) ?_
  obtain ⟨r_1, hc, hF⟩ := bd1_of hF
  refine rc_i (va_runV (As := [.int p0, .int p1, .int p2, .int (4 : Int32)]) (rest := []) ⟨hx, hb, hml, hown, hts⟩ (c_X6_refusalOfLine l dC dI cI cF h a fo ga held p_ fr f_disc f_turns p0 p1 p2 (4 : Int32) r_1 hfo hc) (cwV 4 hts g_X6_line_X6_refusalOfLine rfl rfl rfl (by decide +kernel) ⟨Nat.le_of_ble_eq_true rfl, Nat.le_of_ble_eq_true rfl⟩) ⟨rPk_blind, va_recv hK hP (ci := 4) (q0 := 0) rfl rfl, rPk_at hK (hP.sub (ws' := (kdW cI cF h a fo ga held p_ fr f_disc f_turns)) [0, 1, 2] rfl) hN⟩ rfl rfl hl.1 rfl (lv_room (Nat.le_of_ble_eq_true rfl)) dX6_line_5 ⟨Nat.zero_le _, Nat.zero_le _⟩) ?_
  refine lv_istore (lv' := [(4, .int r_1), (0, .ref h), (1, .int p0), (2, .int p1), (3, .int p2)]) hx hb dX6_line_8 hl (by decide) rfl (fun ls hl => ?_)
  refine lv_iload hx hb dX6_line_10 (lv_at hl 0 rfl) ?_
  refine lv_if_eq (tgt := 18) hx hb dX6_line_12 (by decide) (fun c0 => ?_) (fun c0 => ?_)
  · have hF := if_t hF c0
    refine lv_aload_n hx hb dX6_line_18 rfl (lv_at hl 1 rfl) ?_
    refine va_get (D := (dC, dI)) (ci := 4) (v := .ref (a 3)) (C := RX6) (T := TX6) (N := 8) hx hb hts hinX6 hown hK hP 0 rfl rfl 2 (by decide) hf_26 (fun _ h9 => h9) rfl dX6_line_19 ?_
    refine lv_aload_n hx hb dX6_line_22 rfl (lv_at hl 1 rfl) ?_
    refine va_get (D := (dC, dI)) (ci := 4) (v := .ref (a 1)) (C := RX6) (T := TX6) (N := 8) hx hb hts hinX6 hown hK hP 0 rfl rfl 0 (by decide) hf_11 (fun _ h9 => h9) rfl dX6_line_23 ?_
    refine lv_iload_n hx hb dX6_line_26 rfl (lv_at hl 2 rfl) ?_
    obtain ⟨hg_2, hF⟩ := ck_of hF
    refine kc_aald (y := fo) hx hb hK hP 1 1 rfl rfl (hfo hg_2) hg_2 dX6_line_27 ?_
    refine va_getN (D := (dC, dI)) (ci := 1) (v := .ref (ga 1)) (C := RX1) (T := TX1) (N := 6) hx hb hts hinX1 hown hK hP 2 rfl rfl 0 (by decide) hf_73 (fun _ h9 => h9) rfl dX6_line_28 ?_
    refine lv_aload_n hx hb dX6_line_31 rfl (lv_at hl 1 rfl) ?_
    refine va_get (D := (dC, dI)) (ci := 4) (v := .int p_) (C := RX6) (T := TX6) (N := 8) hx hb hts hinX6 hown hK hP 0 rfl rfl 7 (by decide) hf_44 (fun _ h9 => h9) rfl dX6_line_32 ?_
    obtain ⟨l_found_3, l_p_4, l_six_5, l_all_6, hc, hF⟩ := bd4_of hF
    refine sc_v (wf := (liW cI cF h a fo ga la held p_ fr f_disc f_turns f_num l_found_3 l_p_4 l_t l_u l_six_5 l_all_6 l_w l_basis l_crossed)) (va_runVN (As := [.ref (ga 1), .int p_]) (rest := []) ⟨hx, hb, hml, hown, hts⟩ (c_X2_find l dC dI cI (a 3) la (ga 1) fu H.size l_found l_p l_t l_u l_six l_all l_w l_basis l_crossed f_num p_ l_found_3 l_p_4 l_six_5 l_all_6 hc) ⟨va_cnB 2 hts g_X6_line_X2_find rfl rfl rfl (hN.2 (RX6, 118, yX2_find, "KinForms") (by decide +kernel)) (hlk (.initialized RX2) (by decide +kernel)) (by decide +kernel) ⟨Nat.le_of_ble_eq_true rfl, Nat.le_of_ble_eq_true rfl⟩, hlk (.instanceMethod yX2_find) (by decide +kernel), hlk (.selects RX2 yX2_find yX2_find) (by decide +kernel)⟩ ⟨mPk_blind, va_recv hK hP (ci := 2) (q0 := 4) rfl rfl, mPk_at (hK.sub (tys' := [(cI, .int)]) [0] rfl) (hP.sub (ws' := (lnW cI (a 3) la (ga 1) l_found l_p l_t l_u l_six l_all l_w l_basis l_crossed f_num)) [4, 5, 6, 7, 8, 9, 3] rfl) (hD.sub (ws' := (lnW cI (a 3) la (ga 1) l_found l_p l_t l_u l_six l_all l_w l_basis l_crossed f_num)) [4, 5, 6, 7, 8, 9, 3] (by decide) rfl) hN⟩ rfl rfl hl.1 rfl (lv_room (Nat.le_of_ble_eq_true rfl)) dX6_line_35 ⟨Nat.zero_le _, Nat.zero_le _⟩) hP hD hS hA [4, 5, 6, 7, 8, 9, 3] [0, 1, 2] rfl rfl rfl rfl rfl (by decide) (fun H locs hP hD hS => ?_)
    refine lv_aload_n hx hb dX6_line_38 rfl (lv_at hl 1 rfl) ?_
    refine va_get (D := (dC, dI)) (ci := 4) (v := .ref (a 3)) (C := RX6) (T := TX6) (N := 8) hx hb hts hinX6 hown hK hP 0 rfl rfl 2 (by decide) hf_26 (fun _ h9 => h9) rfl dX6_line_39 ?_
    refine lv_iload_n hx hb dX6_line_42 rfl (lv_at hl 3 rfl) ?_
    obtain ⟨l_t_7, l_u_8, l_w_9, hc, hF⟩ := bd3_of hF
    refine sc_v (wf := (liW cI cF h a fo ga la held p_ fr f_disc f_turns f_num l_found_3 l_p_4 l_t_7 l_u_8 l_six_5 l_all_6 l_w_9 l_basis l_crossed)) (va_runVN (As := [.int p1]) (rest := []) ⟨hx, hb, hml, hown, hts⟩ (c_X2_choose l dC dI cI (a 3) la fu H.size l_found_3 l_p_4 l_t l_u l_six_5 l_all_6 l_w l_basis l_crossed p1 l_t_7 l_u_8 l_w_9 hc) ⟨va_cnB 1 hts g_X6_line_X2_choose rfl rfl rfl (hN.2 (RX6, 122, yX2_choose, "KinForms") (by decide +kernel)) (hlk (.initialized RX2) (by decide +kernel)) (by decide +kernel) ⟨Nat.le_of_ble_eq_true rfl, Nat.le_of_ble_eq_true rfl⟩, hlk (.instanceMethod yX2_choose) (by decide +kernel), hlk (.selects RX2 yX2_choose yX2_choose) (by decide +kernel)⟩ ⟨mPk_blind, va_recv hK hP (ci := 2) (q0 := 4) rfl rfl, mPk_at (hK.sub (tys' := [(cI, .int)]) [0] rfl) (hP.sub (ws' := (lW cI (a 3) la l_found_3 l_p_4 l_t l_u l_six_5 l_all_6 l_w l_basis l_crossed)) [4, 5, 6, 7, 8, 9] rfl) (hD.sub (ws' := (lW cI (a 3) la l_found_3 l_p_4 l_t l_u l_six_5 l_all_6 l_w l_basis l_crossed)) [4, 5, 6, 7, 8, 9] (by decide) rfl) hN⟩ rfl rfl hl.1 rfl (lv_room (Nat.le_of_ble_eq_true rfl)) dX6_line_43 ⟨Nat.zero_le _, Nat.zero_le _⟩) hP hD hS hA [4, 5, 6, 7, 8, 9] [0, 1, 2, 3] rfl rfl rfl rfl rfl (by decide) (fun H locs hP hD hS => ?_)
    refine lv_iload_n hx hb dX6_line_46 rfl (lv_at hl 4 rfl) ?_
    refine lv_iconst (v := 3) hx hb dX6_line_47 (by decide) ?_
    refine lv_icmp_ge (tgt := 61) hx hb dX6_line_48 (by decide) (fun c0 => ?_) (fun c0 => ?_)
    · have hF := if_t hF c0
      refine lv_iload_n hx hb dX6_line_61 rfl (lv_at hl 4 rfl) ?_
      refine lv_iconst (v := 3) hx hb dX6_line_62 (by decide) ?_
      obtain ⟨k83, e_k83, hF⟩ := nm_ex hF
      have hk83 : ∀ (s_10 : Int32) (H : Heap) (locs : List Loc) (ls : Array Slot), va_P (dC, dI) vwCl (liW cI cF h a fo ga la held p_ fr f_disc f_turns f_num l_found_3 l_p_4 l_t_7 l_u_8 l_six_5 l_all_6 l_w_9 l_basis l_crossed) H → va_D A (liW cI cF h a fo ga la held p_ fr f_disc f_turns f_num l_found_3 l_p_4 l_t_7 l_u_8 l_six_5 l_all_6 l_w_9 l_basis l_crossed) → va_S A s.heap H locs → lv_has ls 5 [] → k83 s_10 = some (ro, o_l_found, o_l_p, o_l_t, o_l_u, o_l_six, o_l_all, o_l_w) → W p l e rmX6_line s m ([.ref h, .int p0, .int p1, .int p2] : List Value).toArray below meth c H locs 0 0 Q (F0 m 83 ls [.int s_10]) := by
        intro s_10 H locs ls hP hD hS hl hF
        have hF := ka1 e_k83 hF
        obtain ⟨q0, q1, q2, q3, q4, q5, q6, q7⟩ := sm8 hF
        have hP : va_P (dC, dI) vwCl (liW cI cF h a fo ga la held p_ fr f_disc f_turns f_num o_l_found o_l_p o_l_t o_l_u o_l_six o_l_all o_l_w l_basis l_crossed) H := by rw [← q1, ← q2, ← q3, ← q4, ← q5, ← q6, ← q7]; exact hP
        have hD : va_D A (liW cI cF h a fo ga la held p_ fr f_disc f_turns f_num o_l_found o_l_p o_l_t o_l_u o_l_six o_l_all o_l_w l_basis l_crossed) := by rw [← q1, ← q2, ← q3, ← q4, ← q5, ← q6, ← q7]; exact hD
        refine W_Qe hQ ?_
        exact W.iret hx hb hr (fun t ht hW => ⟨⟨s_10, (), rfl, q0, by rw [ht]; exact hP, va_K.moved hW.alike hK, hD⟩, hS.F ht⟩) hS.2.2 dX6_line_83
      clear e_k83
      refine lv_icmp_ne (tgt := 76) hx hb dX6_line_63 (by decide) (fun c0 => ?_) (fun c0 => ?_)
      · have hF := if_f hF c0
        refine lv_aload_n hx hb dX6_line_76 rfl (lv_at hl 1 rfl) ?_
        refine va_get (D := (dC, dI)) (ci := 4) (v := .ref (a 3)) (C := RX6) (T := TX6) (N := 8) hx hb hts hinX6 hown hK hP 0 rfl rfl 2 (by decide) hf_26 (fun _ h9 => h9) rfl dX6_line_77 ?_
        refine va_getN (D := (dC, dI)) (ci := 2) (v := .int l_u_8) (C := RX2) (T := TX2) (N := 9) hx hb hts hinX2 hown hK hP 4 rfl rfl 8 (by decide) hf_133 (fun _ h9 => h9) rfl dX6_line_80 ?_
        exact hk83 l_u_8 H locs ls hP hD hS (lv_sub hl [] rfl) hF
      · have hF := if_t hF c0
        refine lv_aload_n hx hb dX6_line_66 rfl (lv_at hl 1 rfl) ?_
        refine va_get (D := (dC, dI)) (ci := 4) (v := .ref (a 3)) (C := RX6) (T := TX6) (N := 8) hx hb hts hinX6 hown hK hP 0 rfl rfl 2 (by decide) hf_26 (fun _ h9 => h9) rfl dX6_line_67 ?_
        refine va_getN (D := (dC, dI)) (ci := 2) (v := .int l_t_7) (C := RX2) (T := TX2) (N := 9) hx hb hts hinX2 hown hK hP 4 rfl rfl 7 (by decide) hf_130 (fun _ h9 => h9) rfl dX6_line_70 ?_
        refine lv_goto (tgt := 83) hx hb dX6_line_73 (by decide) ?_
        exact hk83 l_t_7 H locs ls hP hD hS (lv_sub hl [] rfl) hF
    · have hF := if_f hF c0
      refine lv_aload_n hx hb dX6_line_51 rfl (lv_at hl 1 rfl) ?_
      refine va_get (D := (dC, dI)) (ci := 4) (v := .ref (a 3)) (C := RX6) (T := TX6) (N := 8) hx hb hts hinX6 hown hK hP 0 rfl rfl 2 (by decide) hf_26 (fun _ h9 => h9) rfl dX6_line_52 ?_
      refine lv_iload_n hx hb dX6_line_55 rfl (lv_at hl 3 rfl) ?_
      refine lv_iload_n hx hb dX6_line_56 rfl (lv_at hl 4 rfl) ?_
      obtain ⟨r_11, hc, hF⟩ := bd1_of hF
      refine rc_i (va_runVN (As := [.int p1, .int p2]) (rest := []) ⟨hx, hb, hml, hown, hts⟩ (c_X2_part l dC dI cI (a 3) la l_found_3 l_p_4 l_t_7 l_u_8 l_six_5 l_all_6 l_w_9 l_basis l_crossed p1 p2 r_11 hc) ⟨va_cnB 2 hts g_X6_line_X2_part rfl rfl rfl (hN.2 (RX6, 126, yX2_part, "KinForms") (by decide +kernel)) (hlk (.initialized RX2) (by decide +kernel)) (by decide +kernel) ⟨Nat.le_of_ble_eq_true rfl, Nat.le_of_ble_eq_true rfl⟩, hlk (.instanceMethod yX2_part) (by decide +kernel), hlk (.selects RX2 yX2_part yX2_part) (by decide +kernel)⟩ ⟨rPk_blind, va_recv hK hP (ci := 2) (q0 := 4) rfl rfl, rPk_at (hK.sub (tys' := [(cI, .int)]) [0] rfl) (hP.sub (ws' := (lW cI (a 3) la l_found_3 l_p_4 l_t_7 l_u_8 l_six_5 l_all_6 l_w_9 l_basis l_crossed)) [4, 5, 6, 7, 8, 9] rfl) hN⟩ rfl rfl hl.1 rfl (lv_room (Nat.le_of_ble_eq_true rfl)) dX6_line_57 ⟨Nat.zero_le _, Nat.zero_le _⟩) ?_
      obtain ⟨q0, q1, q2, q3, q4, q5, q6, q7⟩ := sm8 hF
      have hP : va_P (dC, dI) vwCl (liW cI cF h a fo ga la held p_ fr f_disc f_turns f_num o_l_found o_l_p o_l_t o_l_u o_l_six o_l_all o_l_w l_basis l_crossed) H := by rw [← q1, ← q2, ← q3, ← q4, ← q5, ← q6, ← q7]; exact hP
      have hD : va_D A (liW cI cF h a fo ga la held p_ fr f_disc f_turns f_num o_l_found o_l_p o_l_t o_l_u o_l_six o_l_all o_l_w l_basis l_crossed) := by rw [← q1, ← q2, ← q3, ← q4, ← q5, ← q6, ← q7]; exact hD
      refine W_Qe hQ ?_
      exact W.iret hx hb hr (fun t ht hW => ⟨⟨r_11, (), rfl, q0, by rw [ht]; exact hP, va_K.moved hW.alike hK, hD⟩, hS.F ht⟩) hS.2.2 dX6_line_60
  · have hF := if_f hF c0
    refine lv_iload hx hb dX6_line_15 (lv_at hl 0 rfl) ?_
    obtain ⟨q0, q1, q2, q3, q4, q5, q6, q7⟩ := sm8 hF
    have hP : va_P (dC, dI) vwCl (liW cI cF h a fo ga la held p_ fr f_disc f_turns f_num o_l_found o_l_p o_l_t o_l_u o_l_six o_l_all o_l_w l_basis l_crossed) H := by rw [← q1, ← q2, ← q3, ← q4, ← q5, ← q6, ← q7]; exact hP
    have hD : va_D A (liW cI cF h a fo ga la held p_ fr f_disc f_turns f_num o_l_found o_l_p o_l_t o_l_u o_l_six o_l_all o_l_w l_basis l_crossed) := by rw [← q1, ← q2, ← q3, ← q4, ← q5, ← q6, ← q7]; exact hD
    refine W_Qe hQ ?_
    exact W.iret hx hb hr (fun t ht hW => ⟨⟨r_1, (), rfl, q0, by rw [ht]; exact hP, va_K.moved hW.alike hK, hD⟩, hS.F ht⟩) hS.2.2 dX6_line_17
def fX6_neighbour (fu : Nat) (held : Int32) (p_ : Int32) (f_disc : Int32) (f_num : Nat → Int32) (l_found : Int32) (l_p : Int32) (l_t : Int32) (l_u : Int32) (l_six : Nat → Int32) (l_all : Nat → Int32) (l_w : Nat → Int32) (l_basis : Nat → Int32) (l_crossed : Nat → Int32) (r_ties : Int32) (r_six : Nat → Int32) (r_rows : Nat → Int32) (r_box : Nat → Int32) (r_worth : Nat → Int32) (r_image : Nat → Int32) (r_best : Nat → Int32) (r_bestRows : Nat → Int32) (p0 : Int32) (p1 : Int32) (p2 : Int32) : Option (Int32 × (Int32) × (Int32) × (Int32) × (Int32) × (Nat → Int32) × (Nat → Int32) × (Nat → Int32) × (Nat → Int32) × (Nat → Int32) × (Int32) × (Nat → Int32) × (Nat → Int32) × (Nat → Int32) × (Nat → Int32) × (Nat → Int32) × (Nat → Int32)) :=
  bd1 (fX6_refusalOfLine held p_ f_disc p0 p1 p2 (5 : Int32)) (fun (r_1 : Int32) => if r_1 = 0 then (if okI p0 12 then bd4 (fX2_find fu l_six l_all f_num p_) (fun (l_found_3 : Int32) (l_p_4 : Int32) (l_six_5 : Nat → Int32) (l_all_6 : Nat → Int32) => bd3 (fX2_choose fu l_p_4 l_six_5 l_all_6 l_w p1) (fun (l_t_7 : Int32) (l_u_8 : Int32) (l_w_9 : Nat → Int32) => bd2 (fX2_cross fu l_p_4 l_u_8 l_six_5 l_w_9 l_basis l_crossed) (fun (l_basis_10 : Nat → Int32) (l_crossed_11 : Nat → Int32) => bd7 (fX3_settle fu r_six r_rows r_box r_worth r_image r_best r_bestRows l_crossed_11) (fun (r_ties_12 : Int32) (r_six_13 : Nat → Int32) (r_rows_14 : Nat → Int32) (r_worth_15 : Nat → Int32) (r_image_16 : Nat → Int32) (r_best_17 : Nat → Int32) (r_bestRows_18 : Nat → Int32) => if okI p2 6 then nm (r_best_17 p2.toNatClampNeg) (fun (v_19 : Int32) => some (v_19, l_found_3, l_p_4, l_t_7, l_u_8, l_six_5, l_all_6, l_w_9, l_basis_10, l_crossed_11, r_ties_12, r_six_13, r_rows_14, r_worth_15, r_image_16, r_best_17, r_bestRows_18)) else none)))) else none) else (some (r_1, l_found, l_p, l_t, l_u, l_six, l_all, l_w, l_basis, l_crossed, r_ties, r_six, r_rows, r_worth, r_image, r_best, r_bestRows)))
def lkX6_neighbour : List Cond := [.initialized RX2, .instanceMethod yX2_find, .selects RX2 yX2_find yX2_find, .instanceMethod yX2_choose, .selects RX2 yX2_choose yX2_choose, .instanceMethod yX2_cross, .selects RX2 yX2_cross yX2_cross, .initialized RX3, .instanceMethod yX3_settle, .selects RX3 yX3_settle yX3_settle, .fieldLink RX6 26 "KinForms" "lines" "LKinForms$Lines;", .fieldLink RX6 11 "KinForms" "forms" "[LKinForms$Form;", .fieldLink RX6 44 "KinForms" "p" "I", .fieldLink RX6 19 "KinForms" "reducer" "LKinForms$Reducer;"]
def vX6_neighbour : List Cond := .code yX6_neighbour cX6_neighbour 5 (some .int) :: (lkX6_neighbour ++ (wsX60 ++ (wsX10 ++ (wsX20 ++ (wsX30 ++ (wsV RX6 114 RX6 yX6_refusalOfLine vX6_refusalOfLine ++ (vX2_find ++ (vX2_choose ++ (vX2_cross ++ (vX3_settle ++ ([])))))))))))
theorem q_X6_neighbour : ∀ w ∈ vX6_neighbour, goodWord w = true := gd_cons rfl (gd_app (by decide +kernel) (gd_app q_wsX60 (gd_app q_wsX10 (gd_app q_wsX20 (gd_app q_wsX30 (gd_app (gd_V q_X6_refusalOfLine) (gd_app q_X2_find (gd_app q_X2_choose (gd_app q_X2_cross (gd_app q_X3_settle gd_nil))))))))))
theorem g_X6_neighbour_X6_refusalOfLine : GoodIn vX6_neighbour (wsV RX6 114 RX6 yX6_refusalOfLine vX6_refusalOfLine) := gi_of (fun w h => List.mem_cons_of_mem _ (List.mem_append_right _ (List.mem_append_right _ (List.mem_append_right _ (List.mem_append_right _ (List.mem_append_right _ (List.mem_append_left _ h))))))) (gd_V q_X6_refusalOfLine)
theorem g_X6_neighbour_X2_find : GoodIn vX6_neighbour (vX2_find) := gi_of (fun w h => List.mem_cons_of_mem _ (List.mem_append_right _ (List.mem_append_right _ (List.mem_append_right _ (List.mem_append_right _ (List.mem_append_right _ (List.mem_append_right _ (List.mem_append_left _ h)))))))) q_X2_find
theorem g_X6_neighbour_X2_choose : GoodIn vX6_neighbour (vX2_choose) := gi_of (fun w h => List.mem_cons_of_mem _ (List.mem_append_right _ (List.mem_append_right _ (List.mem_append_right _ (List.mem_append_right _ (List.mem_append_right _ (List.mem_append_right _ (List.mem_append_right _ (List.mem_append_left _ h))))))))) q_X2_choose
theorem g_X6_neighbour_X2_cross : GoodIn vX6_neighbour (vX2_cross) := gi_of (fun w h => List.mem_cons_of_mem _ (List.mem_append_right _ (List.mem_append_right _ (List.mem_append_right _ (List.mem_append_right _ (List.mem_append_right _ (List.mem_append_right _ (List.mem_append_right _ (List.mem_append_right _ (List.mem_append_left _ h)))))))))) q_X2_cross
theorem g_X6_neighbour_X3_settle : GoodIn vX6_neighbour (vX3_settle) := gi_of (fun w h => List.mem_cons_of_mem _ (List.mem_append_right _ (List.mem_append_right _ (List.mem_append_right _ (List.mem_append_right _ (List.mem_append_right _ (List.mem_append_right _ (List.mem_append_right _ (List.mem_append_right _ (List.mem_append_right _ (List.mem_append_left _ h))))))))))) q_X3_settle
abbrev rmX6_neighbour : Room := { frames := 5, cells := 0, slots := 0, locals := 117 }
set_option maxHeartbeats 4000000 in
set_option maxRecDepth 100000 in
theorem c_X6_neighbour (l : Launch) (dC : Nat → ClassId) (dI : Nat → Nat → Nat) (cI : ClassId) (cF : ClassId) (h : Nat) (a : Nat → Nat) (fo : Nat) (ga : Nat → Nat) (la : Nat → Nat) (ra : Nat → Nat) (fu : Nat) (sz : Nat) (held : Int32) (p_ : Int32) (fr : Nat → Option Nat) (f_disc : Int32) (f_turns : Int32) (f_num : Nat → Int32) (l_found : Int32) (l_p : Int32) (l_t : Int32) (l_u : Int32) (l_six : Nat → Int32) (l_all : Nat → Int32) (l_w : Nat → Int32) (l_basis : Nat → Int32) (l_crossed : Nat → Int32) (r_ties : Int32) (r_six : Nat → Int32) (r_rows : Nat → Int32) (r_box : Nat → Int32) (r_worth : Nat → Int32) (r_image : Nat → Int32) (r_best : Nat → Int32) (r_bestRows : Nat → Int32) (p0 : Int32) (p1 : Int32) (p2 : Int32) (ro : Int32) (o_l_found : Int32) (o_l_p : Int32) (o_l_t : Int32) (o_l_u : Int32) (o_l_six : Nat → Int32) (o_l_all : Nat → Int32) (o_l_w : Nat → Int32) (o_l_basis : Nat → Int32) (o_l_crossed : Nat → Int32) (o_r_ties : Int32) (o_r_six : Nat → Int32) (o_r_rows : Nat → Int32) (o_r_worth : Nat → Int32) (o_r_image : Nat → Int32) (o_r_best : Nat → Int32) (o_r_bestRows : Nat → Int32) (hfo : okI p0 12 → fr p0.toNatClampNeg = some fo) (hF : fX6_neighbour fu held p_ f_disc f_num l_found l_p l_t l_u l_six l_all l_w l_basis l_crossed r_ties r_six r_rows r_box r_worth r_image r_best r_bestRows p0 p1 p2 = some (ro, o_l_found, o_l_p, o_l_t, o_l_u, o_l_six, o_l_all, o_l_w, o_l_basis, o_l_crossed, o_r_ties, o_r_six, o_r_rows, o_r_worth, o_r_image, o_r_best, o_r_bestRows)) : Met l yX6_neighbour vX6_neighbour rmX6_neighbour (va_Pc [.ref h, .int p0, .int p1, .int p2] (mPk (dC, dI) vwCl (neW cI cF h a fo ga la ra held p_ fr f_disc f_turns f_num l_found l_p l_t l_u l_six l_all l_w l_basis l_crossed r_ties r_six r_rows r_box r_worth r_image r_best r_bestRows) [(cI, .int), (cF, .object "KinForms$Form")] sz)) (va_Qi (fun x (_ : Unit) => x = ro) (mPo (dC, dI) vwCl (neW cI cF h a fo ga la ra held p_ fr f_disc f_turns f_num o_l_found o_l_p o_l_t o_l_u o_l_six o_l_all o_l_w o_l_basis o_l_crossed o_r_ties o_r_six o_r_rows r_box o_r_worth o_r_image o_r_best o_r_bestRows) [(cI, .int), (cF, .object "KinForms$Form")] (va_A (neW cI cF h a fo ga la ra held p_ fr f_disc f_turns f_num l_found l_p l_t l_u l_six l_all l_w l_basis l_crossed r_ties r_six r_rows r_box r_worth r_image r_best r_bestRows) sz)) (va_A (neW cI cF h a fo ga la ra held p_ fr f_disc f_turns f_num l_found l_p l_t l_u l_six l_all l_w l_basis l_crossed r_ties r_six r_rows r_box r_worth r_image r_best r_bestRows) sz)) 0 0 (va_A (neW cI cF h a fo ga la ra held p_ fr f_disc f_turns f_num l_found l_p l_t l_u l_six l_all l_w l_basis l_crossed r_ties r_six r_rows r_box r_worth r_image r_best r_bestRows) sz) := by
  refine Met.ofW (cc := cX6_neighbour) (maxL := 5) (ret := (some .int)) (by decide) rfl ?_
  intro p e s m args below meth c s₁ B hml hv
  obtain ⟨rfl, hsz, hP, hK, hD0, hN⟩ := hv
  have hx := B.exec
  have hb := B.bytes
  have hr := B.returns
  have hts := atoms_spec (ws := vX6_neighbour) B.pre
  have hlk : ∀ w ∈ lkX6_neighbour, w.before _ s = true := fun w h => hts w (List.mem_cons_of_mem _ (List.mem_append_left _ h))
  have hown : s.vm.findClass RX6 = some m.cls := findClass_of_methodNamed B.named
  have hlocks := B.notSynchronized
  subst hsz
  have hD := hD0.self (sz := s.heap.size)
  generalize hAe : va_A (neW cI cF h a fo ga la ra held p_ fr f_disc f_turns f_num l_found l_p l_t l_u l_six l_all l_w l_basis l_crossed r_ties r_six r_rows r_box r_worth r_image r_best r_bestRows) s.heap.size = A at hD ⊢
  have hA : ∀ q : Nat, s.heap.size ≤ q → A q := fun q h => by rw [← hAe]; exact Or.inr h
  have hS : va_S A s.heap s.heap [] := va_S.rf
  have hinX6 : ∀ w ∈ wsX60, w ∈ vX6_neighbour := fun w h => List.mem_cons_of_mem _ (List.mem_append_right _ (List.mem_append_left _ h))
  have hinX1 : ∀ w ∈ wsX10, w ∈ vX6_neighbour := fun w h => List.mem_cons_of_mem _ (List.mem_append_right _ (List.mem_append_right _ (List.mem_append_left _ h)))
  have hinX2 : ∀ w ∈ wsX20, w ∈ vX6_neighbour := fun w h => List.mem_cons_of_mem _ (List.mem_append_right _ (List.mem_append_right _ (List.mem_append_right _ (List.mem_append_left _ h))))
  have hinX3 : ∀ w ∈ wsX30, w ∈ vX6_neighbour := fun w h => List.mem_cons_of_mem _ (List.mem_append_right _ (List.mem_append_right _ (List.mem_append_right _ (List.mem_append_right _ (List.mem_append_left _ h)))))
  have hf_26 := hlk (.fieldLink RX6 26 "KinForms" "lines" "LKinForms$Lines;") (by decide +kernel)
  have hf_11 := hlk (.fieldLink RX6 11 "KinForms" "forms" "[LKinForms$Form;") (by decide +kernel)
  have hf_73 := va_Nw.use (A := ([.ref h, .int p0, .int p1, .int p2] : List Value).toArray) rfl (hN.1 (RX6, 73, "KinForms$Form", "numbers", "[I", "KinForms") (by decide +kernel))
  have hf_44 := hlk (.fieldLink RX6 44 "KinForms" "p" "I") (by decide +kernel)
  have hf_19 := hlk (.fieldLink RX6 19 "KinForms" "reducer" "LKinForms$Reducer;") (by decide +kernel)
  have hf_139 := va_Nw.use (A := ([.ref h, .int p0, .int p1, .int p2] : List Value).toArray) rfl (hN.1 (RX6, 139, "KinForms$Lines", "crossed", "[I", "KinForms") (by decide +kernel))
  have hf_146 := va_Nw.use (A := ([.ref h, .int p0, .int p1, .int p2] : List Value).toArray) rfl (hN.1 (RX6, 146, "KinForms$Reducer", "best", "[I", "KinForms") (by decide +kernel))
  have hl := lv_entry ([.ref h, .int p0, .int p1, .int p2] : List Value) (n := 5) (Nat.le_of_ble_eq_true rfl)
  rw [lg_entry_eq]
  generalize (lg_sl ([.ref h, .int p0, .int p1, .int p2] : List Value) ++ List.replicate (5 - (lg_sl ([.ref h, .int p0, .int p1, .int p2] : List Value)).length) Slot.unset).toArray = ls at hl ⊢
  have hl : lv_has ls 5 [(0, .ref h), (1, .int p0), (2, .int p1), (3, .int p2)] := hl
  unfold fX6_neighbour at hF
  refine W_Q (fun Q hQ => ?_)
  have hP : va_P (dC, dI) vwCl (neW cI cF h a fo ga la ra held p_ fr f_disc f_turns f_num l_found l_p l_t l_u l_six l_all l_w l_basis l_crossed r_ties r_six r_rows r_box r_worth r_image r_best r_bestRows) s.heap := hP
  refine W_HL (fun H locs eH eL => ?_)
  rw [← eH] at hP
  have hS : va_S A s.heap H locs := by rw [eH, eL]; exact hS
  refine lv_aload_n hx hb dX6_neighbour_0 rfl (lv_at hl 0 rfl) ?_
  refine lv_iload_n hx hb dX6_neighbour_1 rfl (lv_at hl 1 rfl) ?_
  refine lv_iload_n hx hb dX6_neighbour_2 rfl (lv_at hl 2 rfl) ?_
  refine lv_iload_n hx hb dX6_neighbour_3 rfl (lv_at hl 3 rfl) ?_
  refine lv_iconst (v := 5) hx hb dX6_neighbour_4 (by decide) ?_
  obtain ⟨r_1, hc, hF⟩ := bd1_of hF
  refine rc_i (va_runV (As := [.int p0, .int p1, .int p2, .int (5 : Int32)]) (rest := []) ⟨hx, hb, hml, hown, hts⟩ (c_X6_refusalOfLine l dC dI cI cF h a fo ga held p_ fr f_disc f_turns p0 p1 p2 (5 : Int32) r_1 hfo hc) (cwV 4 hts g_X6_neighbour_X6_refusalOfLine rfl rfl rfl (by decide +kernel) ⟨Nat.le_of_ble_eq_true rfl, Nat.le_of_ble_eq_true rfl⟩) ⟨rPk_blind, va_recv hK hP (ci := 4) (q0 := 0) rfl rfl, rPk_at hK (hP.sub (ws' := (kdW cI cF h a fo ga held p_ fr f_disc f_turns)) [0, 1, 2] rfl) hN⟩ rfl rfl hl.1 rfl (lv_room (Nat.le_of_ble_eq_true rfl)) dX6_neighbour_5 ⟨Nat.zero_le _, Nat.zero_le _⟩) ?_
  refine lv_istore (lv' := [(4, .int r_1), (0, .ref h), (1, .int p0), (2, .int p1), (3, .int p2)]) hx hb dX6_neighbour_8 hl (by decide) rfl (fun ls hl => ?_)
  refine lv_iload hx hb dX6_neighbour_10 (lv_at hl 0 rfl) ?_
  refine lv_if_eq (tgt := 18) hx hb dX6_neighbour_12 (by decide) (fun c0 => ?_) (fun c0 => ?_)
  · have hF := if_t hF c0
    refine lv_aload_n hx hb dX6_neighbour_18 rfl (lv_at hl 1 rfl) ?_
    refine va_get (D := (dC, dI)) (ci := 4) (v := .ref (a 3)) (C := RX6) (T := TX6) (N := 8) hx hb hts hinX6 hown hK hP 0 rfl rfl 2 (by decide) hf_26 (fun _ h9 => h9) rfl dX6_neighbour_19 ?_
    refine lv_aload_n hx hb dX6_neighbour_22 rfl (lv_at hl 1 rfl) ?_
    refine va_get (D := (dC, dI)) (ci := 4) (v := .ref (a 1)) (C := RX6) (T := TX6) (N := 8) hx hb hts hinX6 hown hK hP 0 rfl rfl 0 (by decide) hf_11 (fun _ h9 => h9) rfl dX6_neighbour_23 ?_
    refine lv_iload_n hx hb dX6_neighbour_26 rfl (lv_at hl 2 rfl) ?_
    obtain ⟨hg_2, hF⟩ := ck_of hF
    refine kc_aald (y := fo) hx hb hK hP 1 1 rfl rfl (hfo hg_2) hg_2 dX6_neighbour_27 ?_
    refine va_getN (D := (dC, dI)) (ci := 1) (v := .ref (ga 1)) (C := RX1) (T := TX1) (N := 6) hx hb hts hinX1 hown hK hP 2 rfl rfl 0 (by decide) hf_73 (fun _ h9 => h9) rfl dX6_neighbour_28 ?_
    refine lv_aload_n hx hb dX6_neighbour_31 rfl (lv_at hl 1 rfl) ?_
    refine va_get (D := (dC, dI)) (ci := 4) (v := .int p_) (C := RX6) (T := TX6) (N := 8) hx hb hts hinX6 hown hK hP 0 rfl rfl 7 (by decide) hf_44 (fun _ h9 => h9) rfl dX6_neighbour_32 ?_
    obtain ⟨l_found_3, l_p_4, l_six_5, l_all_6, hc, hF⟩ := bd4_of hF
    refine sc_v (wf := (neW cI cF h a fo ga la ra held p_ fr f_disc f_turns f_num l_found_3 l_p_4 l_t l_u l_six_5 l_all_6 l_w l_basis l_crossed r_ties r_six r_rows r_box r_worth r_image r_best r_bestRows)) (va_runVN (As := [.ref (ga 1), .int p_]) (rest := []) ⟨hx, hb, hml, hown, hts⟩ (c_X2_find l dC dI cI (a 3) la (ga 1) fu H.size l_found l_p l_t l_u l_six l_all l_w l_basis l_crossed f_num p_ l_found_3 l_p_4 l_six_5 l_all_6 hc) ⟨va_cnB 2 hts g_X6_neighbour_X2_find rfl rfl rfl (hN.2 (RX6, 118, yX2_find, "KinForms") (by decide +kernel)) (hlk (.initialized RX2) (by decide +kernel)) (by decide +kernel) ⟨Nat.le_of_ble_eq_true rfl, Nat.le_of_ble_eq_true rfl⟩, hlk (.instanceMethod yX2_find) (by decide +kernel), hlk (.selects RX2 yX2_find yX2_find) (by decide +kernel)⟩ ⟨mPk_blind, va_recv hK hP (ci := 2) (q0 := 4) rfl rfl, mPk_at (hK.sub (tys' := [(cI, .int)]) [0] rfl) (hP.sub (ws' := (lnW cI (a 3) la (ga 1) l_found l_p l_t l_u l_six l_all l_w l_basis l_crossed f_num)) [4, 5, 6, 7, 8, 9, 3] rfl) (hD.sub (ws' := (lnW cI (a 3) la (ga 1) l_found l_p l_t l_u l_six l_all l_w l_basis l_crossed f_num)) [4, 5, 6, 7, 8, 9, 3] (by decide) rfl) hN⟩ rfl rfl hl.1 rfl (lv_room (Nat.le_of_ble_eq_true rfl)) dX6_neighbour_35 ⟨Nat.zero_le _, Nat.zero_le _⟩) hP hD hS hA [4, 5, 6, 7, 8, 9, 3] [0, 1, 2, 10, 11, 12, 13, 14, 15, 16, 17] rfl rfl rfl rfl rfl (by decide) (fun H locs hP hD hS => ?_)
    refine lv_aload_n hx hb dX6_neighbour_38 rfl (lv_at hl 1 rfl) ?_
    refine va_get (D := (dC, dI)) (ci := 4) (v := .ref (a 3)) (C := RX6) (T := TX6) (N := 8) hx hb hts hinX6 hown hK hP 0 rfl rfl 2 (by decide) hf_26 (fun _ h9 => h9) rfl dX6_neighbour_39 ?_
    refine lv_iload_n hx hb dX6_neighbour_42 rfl (lv_at hl 3 rfl) ?_
    obtain ⟨l_t_7, l_u_8, l_w_9, hc, hF⟩ := bd3_of hF
    refine sc_v (wf := (neW cI cF h a fo ga la ra held p_ fr f_disc f_turns f_num l_found_3 l_p_4 l_t_7 l_u_8 l_six_5 l_all_6 l_w_9 l_basis l_crossed r_ties r_six r_rows r_box r_worth r_image r_best r_bestRows)) (va_runVN (As := [.int p1]) (rest := []) ⟨hx, hb, hml, hown, hts⟩ (c_X2_choose l dC dI cI (a 3) la fu H.size l_found_3 l_p_4 l_t l_u l_six_5 l_all_6 l_w l_basis l_crossed p1 l_t_7 l_u_8 l_w_9 hc) ⟨va_cnB 1 hts g_X6_neighbour_X2_choose rfl rfl rfl (hN.2 (RX6, 122, yX2_choose, "KinForms") (by decide +kernel)) (hlk (.initialized RX2) (by decide +kernel)) (by decide +kernel) ⟨Nat.le_of_ble_eq_true rfl, Nat.le_of_ble_eq_true rfl⟩, hlk (.instanceMethod yX2_choose) (by decide +kernel), hlk (.selects RX2 yX2_choose yX2_choose) (by decide +kernel)⟩ ⟨mPk_blind, va_recv hK hP (ci := 2) (q0 := 4) rfl rfl, mPk_at (hK.sub (tys' := [(cI, .int)]) [0] rfl) (hP.sub (ws' := (lW cI (a 3) la l_found_3 l_p_4 l_t l_u l_six_5 l_all_6 l_w l_basis l_crossed)) [4, 5, 6, 7, 8, 9] rfl) (hD.sub (ws' := (lW cI (a 3) la l_found_3 l_p_4 l_t l_u l_six_5 l_all_6 l_w l_basis l_crossed)) [4, 5, 6, 7, 8, 9] (by decide) rfl) hN⟩ rfl rfl hl.1 rfl (lv_room (Nat.le_of_ble_eq_true rfl)) dX6_neighbour_43 ⟨Nat.zero_le _, Nat.zero_le _⟩) hP hD hS hA [4, 5, 6, 7, 8, 9] [0, 1, 2, 3, 10, 11, 12, 13, 14, 15, 16, 17] rfl rfl rfl rfl rfl (by decide) (fun H locs hP hD hS => ?_)
    refine lv_aload_n hx hb dX6_neighbour_46 rfl (lv_at hl 1 rfl) ?_
    refine va_get (D := (dC, dI)) (ci := 4) (v := .ref (a 3)) (C := RX6) (T := TX6) (N := 8) hx hb hts hinX6 hown hK hP 0 rfl rfl 2 (by decide) hf_26 (fun _ h9 => h9) rfl dX6_neighbour_47 ?_
    obtain ⟨l_basis_10, l_crossed_11, hc, hF⟩ := bd2_of hF
    refine sc_v (wf := (neW cI cF h a fo ga la ra held p_ fr f_disc f_turns f_num l_found_3 l_p_4 l_t_7 l_u_8 l_six_5 l_all_6 l_w_9 l_basis_10 l_crossed_11 r_ties r_six r_rows r_box r_worth r_image r_best r_bestRows)) (va_runVN (As := []) (rest := []) ⟨hx, hb, hml, hown, hts⟩ (c_X2_cross l dC dI cI (a 3) la fu H.size l_found_3 l_p_4 l_t_7 l_u_8 l_six_5 l_all_6 l_w_9 l_basis l_crossed  l_basis_10 l_crossed_11 hc) ⟨va_cnB 0 hts g_X6_neighbour_X2_cross rfl rfl rfl (hN.2 (RX6, 136, yX2_cross, "KinForms") (by decide +kernel)) (hlk (.initialized RX2) (by decide +kernel)) (by decide +kernel) ⟨Nat.le_of_ble_eq_true rfl, Nat.le_of_ble_eq_true rfl⟩, hlk (.instanceMethod yX2_cross) (by decide +kernel), hlk (.selects RX2 yX2_cross yX2_cross) (by decide +kernel)⟩ ⟨mPk_blind, va_recv hK hP (ci := 2) (q0 := 4) rfl rfl, mPk_at (hK.sub (tys' := [(cI, .int)]) [0] rfl) (hP.sub (ws' := (lW cI (a 3) la l_found_3 l_p_4 l_t_7 l_u_8 l_six_5 l_all_6 l_w_9 l_basis l_crossed)) [4, 5, 6, 7, 8, 9] rfl) (hD.sub (ws' := (lW cI (a 3) la l_found_3 l_p_4 l_t_7 l_u_8 l_six_5 l_all_6 l_w_9 l_basis l_crossed)) [4, 5, 6, 7, 8, 9] (by decide) rfl) hN⟩ rfl rfl hl.1 rfl (lv_room (Nat.le_of_ble_eq_true rfl)) dX6_neighbour_50 ⟨Nat.zero_le _, Nat.zero_le _⟩) hP hD hS hA [4, 5, 6, 7, 8, 9] [0, 1, 2, 3, 10, 11, 12, 13, 14, 15, 16, 17] rfl rfl rfl rfl rfl (by decide) (fun H locs hP hD hS => ?_)
    refine lv_aload_n hx hb dX6_neighbour_53 rfl (lv_at hl 1 rfl) ?_
    refine va_get (D := (dC, dI)) (ci := 4) (v := .ref (a 2)) (C := RX6) (T := TX6) (N := 8) hx hb hts hinX6 hown hK hP 0 rfl rfl 1 (by decide) hf_19 (fun _ h9 => h9) rfl dX6_neighbour_54 ?_
    refine lv_aload_n hx hb dX6_neighbour_57 rfl (lv_at hl 1 rfl) ?_
    refine va_get (D := (dC, dI)) (ci := 4) (v := .ref (a 3)) (C := RX6) (T := TX6) (N := 8) hx hb hts hinX6 hown hK hP 0 rfl rfl 2 (by decide) hf_26 (fun _ h9 => h9) rfl dX6_neighbour_58 ?_
    refine va_getN (D := (dC, dI)) (ci := 2) (v := .ref (la 5)) (C := RX2) (T := TX2) (N := 9) hx hb hts hinX2 hown hK hP 4 rfl rfl 4 (by decide) hf_139 (fun _ h9 => h9) rfl dX6_neighbour_61 ?_
    obtain ⟨r_ties_12, r_six_13, r_rows_14, r_worth_15, r_image_16, r_best_17, r_bestRows_18, hc, hF⟩ := bd7_of hF
    refine sc_v (wf := (neW cI cF h a fo ga la ra held p_ fr f_disc f_turns f_num l_found_3 l_p_4 l_t_7 l_u_8 l_six_5 l_all_6 l_w_9 l_basis_10 l_crossed_11 r_ties_12 r_six_13 r_rows_14 r_box r_worth_15 r_image_16 r_best_17 r_bestRows_18)) (va_runVN (As := [.ref (la 5)]) (rest := []) ⟨hx, hb, hml, hown, hts⟩ (c_X3_settle l dC dI cI (a 2) ra (la 5) fu H.size r_ties r_six r_rows r_box r_worth r_image r_best r_bestRows l_crossed_11  r_ties_12 r_six_13 r_rows_14 r_worth_15 r_image_16 r_best_17 r_bestRows_18 hc) ⟨va_cnB 1 hts g_X6_neighbour_X3_settle rfl rfl rfl (hN.2 (RX6, 142, yX3_settle, "KinForms") (by decide +kernel)) (hlk (.initialized RX3) (by decide +kernel)) (by decide +kernel) ⟨Nat.le_of_ble_eq_true rfl, Nat.le_of_ble_eq_true rfl⟩, hlk (.instanceMethod yX3_settle) (by decide +kernel), hlk (.selects RX3 yX3_settle yX3_settle) (by decide +kernel)⟩ ⟨mPk_blind, va_recv hK hP (ci := 3) (q0 := 10) rfl rfl, mPk_at (hK.sub (tys' := [(cI, .int)]) [0] rfl) (hP.sub (ws' := (rnW cI (a 2) ra (la 5) r_ties r_six r_rows r_box r_worth r_image r_best r_bestRows l_crossed_11)) [10, 11, 12, 13, 14, 15, 16, 17, 9] rfl) (hD.sub (ws' := (rnW cI (a 2) ra (la 5) r_ties r_six r_rows r_box r_worth r_image r_best r_bestRows l_crossed_11)) [10, 11, 12, 13, 14, 15, 16, 17, 9] (by decide) rfl) hN⟩ rfl rfl hl.1 rfl (lv_room (Nat.le_of_ble_eq_true rfl)) dX6_neighbour_64 ⟨Nat.zero_le _, Nat.zero_le _⟩) hP hD hS hA [10, 11, 12, 13, 14, 15, 16, 17, 9] [0, 1, 2, 3, 4, 5, 6, 7, 8] rfl rfl rfl rfl rfl (by decide) (fun H locs hP hD hS => ?_)
    refine lv_aload_n hx hb dX6_neighbour_67 rfl (lv_at hl 1 rfl) ?_
    refine va_get (D := (dC, dI)) (ci := 4) (v := .ref (a 2)) (C := RX6) (T := TX6) (N := 8) hx hb hts hinX6 hown hK hP 0 rfl rfl 1 (by decide) hf_19 (fun _ h9 => h9) rfl dX6_neighbour_68 ?_
    refine va_getN (D := (dC, dI)) (ci := 3) (v := .ref (ra 6)) (C := RX3) (T := TX3) (N := 8) hx hb hts hinX3 hown hK hP 10 rfl rfl 5 (by decide) hf_146 (fun _ h9 => h9) rfl dX6_neighbour_71 ?_
    refine lv_iload_n hx hb dX6_neighbour_74 rfl (lv_at hl 4 rfl) ?_
    obtain ⟨hi, hF⟩ := ck_of hF
    refine va_iald hx hb hK hP 16 0 rfl rfl hi dX6_neighbour_75 ?_
    refine lv_topi (fun v_19 e_v_19 => ?_)
    have hF := nm_at hF e_v_19
    obtain ⟨q0, q1, q2, q3, q4, q5, q6, q7, q8, q9, q10, q11, q12, q13, q14, q15, q16⟩ := sm17 hF
    have hP : va_P (dC, dI) vwCl (neW cI cF h a fo ga la ra held p_ fr f_disc f_turns f_num o_l_found o_l_p o_l_t o_l_u o_l_six o_l_all o_l_w o_l_basis o_l_crossed o_r_ties o_r_six o_r_rows r_box o_r_worth o_r_image o_r_best o_r_bestRows) H := by rw [← q1, ← q2, ← q3, ← q4, ← q5, ← q6, ← q7, ← q8, ← q9, ← q10, ← q11, ← q12, ← q13, ← q14, ← q15, ← q16]; exact hP
    have hD : va_D A (neW cI cF h a fo ga la ra held p_ fr f_disc f_turns f_num o_l_found o_l_p o_l_t o_l_u o_l_six o_l_all o_l_w o_l_basis o_l_crossed o_r_ties o_r_six o_r_rows r_box o_r_worth o_r_image o_r_best o_r_bestRows) := by rw [← q1, ← q2, ← q3, ← q4, ← q5, ← q6, ← q7, ← q8, ← q9, ← q10, ← q11, ← q12, ← q13, ← q14, ← q15, ← q16]; exact hD
    refine W_Qe hQ ?_
    exact W.iret hx hb hr (fun t ht hW => ⟨⟨v_19, (), rfl, q0, by rw [ht]; exact hP, va_K.moved hW.alike hK, hD⟩, hS.F ht⟩) hS.2.2 dX6_neighbour_76
  · have hF := if_f hF c0
    refine lv_iload hx hb dX6_neighbour_15 (lv_at hl 0 rfl) ?_
    obtain ⟨q0, q1, q2, q3, q4, q5, q6, q7, q8, q9, q10, q11, q12, q13, q14, q15, q16⟩ := sm17 hF
    have hP : va_P (dC, dI) vwCl (neW cI cF h a fo ga la ra held p_ fr f_disc f_turns f_num o_l_found o_l_p o_l_t o_l_u o_l_six o_l_all o_l_w o_l_basis o_l_crossed o_r_ties o_r_six o_r_rows r_box o_r_worth o_r_image o_r_best o_r_bestRows) H := by rw [← q1, ← q2, ← q3, ← q4, ← q5, ← q6, ← q7, ← q8, ← q9, ← q10, ← q11, ← q12, ← q13, ← q14, ← q15, ← q16]; exact hP
    have hD : va_D A (neW cI cF h a fo ga la ra held p_ fr f_disc f_turns f_num o_l_found o_l_p o_l_t o_l_u o_l_six o_l_all o_l_w o_l_basis o_l_crossed o_r_ties o_r_six o_r_rows r_box o_r_worth o_r_image o_r_best o_r_bestRows) := by rw [← q1, ← q2, ← q3, ← q4, ← q5, ← q6, ← q7, ← q8, ← q9, ← q10, ← q11, ← q12, ← q13, ← q14, ← q15, ← q16]; exact hD
    refine W_Qe hQ ?_
    exact W.iret hx hb hr (fun t ht hW => ⟨⟨r_1, (), rfl, q0, by rw [ht]; exact hP, va_K.moved hW.alike hK, hD⟩, hS.F ht⟩) hS.2.2 dX6_neighbour_17
