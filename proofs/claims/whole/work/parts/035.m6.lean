def fX7_turns (fu : Nat) (forms : Int32) (numbers : Nat → Int32) (q : Nat → Int64) (p0 : Int32) (p1 : Int32) (p2 : Int32) (p3 : Int32) (p4 : Int32) (p5 : Int32) (p6 : Int32) (p7 : Int32) (p8 : Int32) (p9 : Int32) (p10 : Int32) : Option (Int32 × (Nat → Int64)) :=
  bd1 (fX7_isForm forms p0) (fun (r_1 : Int32) => nm (some ((-100001 : Int32), q)) (fun (k16 : Option (Int32 × (Nat → Int64))) => if r_1 = 0 then ((k16)) else (bd1 (fX7_isForm forms p1) (fun (r_2 : Int32) => if r_2 = 0 then ((k16)) else (bd1 (fX7_in p2.toInt64 (-20 : Int64) (20 : Int64)) (fun (r_3 : Int32) => nm (fun (s_12 : Int32) => if s_12 = 0 then (some ((-100002 : Int32), q)) else (nm (((p2 * ((p6 * p10) - (p7 * p9))) + (p3 * ((p7 * p8) - (p5 * p10)))) + (p4 * ((p5 * p9) - (p6 * p8)))) (fun (x13_13 : Int32) => nm (bd1 (fX7_hold fu numbers q p0) (fun (q_14 : Nat → Int64) => bd1 (fX7_valueOf q_14 p2.toInt64 p3.toInt64 p4.toInt64) (fun (r_15 : Int64) => nm ((6 : Int32) * p1) (fun (v_16 : Int32) => if okI v_16 72 then nm (fun (s_21 : Int32) => nm (fun (s_28 : Int32) => nm (fun (s_29 : Int32) => some (s_29, q_14)) (fun (k457 : (Int32) → Option (Int32 × (Nat → Int64))) => if s_28 = 0 then ((k457 (0 : Int32))) else ((k457 (1 : Int32))))) (fun (k445 : (Int32) → Option (Int32 × (Nat → Int64))) => nm ((k445 (0 : Int32))) (fun (k444 : Option (Int32 × (Nat → Int64))) => if s_21 = 0 then ((k444)) else (bd1 (fX7_touchOf q_14 p5.toInt64 p6.toInt64 p7.toInt64 p8.toInt64 p9.toInt64 p10.toInt64) (fun (r_22 : Int64) => nm (((6 : Int32) * p1) + (3 : Int32)) (fun (v_23 : Int32) => if okI v_23 72 then if r_22 = (numbers v_23.toNatClampNeg).toInt64 then (bd1 (fX7_touchOf q_14 p2.toInt64 p3.toInt64 p4.toInt64 p8.toInt64 p9.toInt64 p10.toInt64) (fun (r_24 : Int64) => nm (((6 : Int32) * p1) + (4 : Int32)) (fun (v_25 : Int32) => if okI v_25 72 then if r_24 = (numbers v_25.toNatClampNeg).toInt64 then (bd1 (fX7_touchOf q_14 p2.toInt64 p3.toInt64 p4.toInt64 p5.toInt64 p6.toInt64 p7.toInt64) (fun (r_26 : Int64) => nm (((6 : Int32) * p1) + (5 : Int32)) (fun (v_27 : Int32) => if okI v_27 72 then if r_26 = (numbers v_27.toNatClampNeg).toInt64 then ((k445 (1 : Int32))) else ((k444)) else none))) else ((k444)) else none))) else ((k444)) else none)))))) (fun (k321 : (Int32) → Option (Int32 × (Nat → Int64))) => nm ((k321 (0 : Int32))) (fun (k320 : Option (Int32 × (Nat → Int64))) => if r_15 = (numbers v_16.toNatClampNeg).toInt64 then (bd1 (fX7_valueOf q_14 p5.toInt64 p6.toInt64 p7.toInt64) (fun (r_17 : Int64) => nm (((6 : Int32) * p1) + (1 : Int32)) (fun (v_18 : Int32) => if okI v_18 72 then if r_17 = (numbers v_18.toNatClampNeg).toInt64 then (bd1 (fX7_valueOf q_14 p8.toInt64 p9.toInt64 p10.toInt64) (fun (r_19 : Int64) => nm (((6 : Int32) * p1) + (2 : Int32)) (fun (v_20 : Int32) => if okI v_20 72 then if r_19 = (numbers v_20.toNatClampNeg).toInt64 then ((k321 (1 : Int32))) else ((k320)) else none))) else ((k320)) else none))) else ((k320)))) else none)))) (fun (k227 : Option (Int32 × (Nat → Int64))) => if x13_13 = (1 : Int32) then ((k227)) else (if x13_13 = (-1 : Int32) then ((k227)) else (some ((0 : Int32), q))))))) (fun (k158 : (Int32) → Option (Int32 × (Nat → Int64))) => nm ((k158 (0 : Int32))) (fun (k157 : Option (Int32 × (Nat → Int64))) => if r_3 = 0 then ((k157)) else (bd1 (fX7_in p3.toInt64 (-20 : Int64) (20 : Int64)) (fun (r_4 : Int32) => if r_4 = 0 then ((k157)) else (bd1 (fX7_in p4.toInt64 (-20 : Int64) (20 : Int64)) (fun (r_5 : Int32) => if r_5 = 0 then ((k157)) else (bd1 (fX7_in p5.toInt64 (-20 : Int64) (20 : Int64)) (fun (r_6 : Int32) => if r_6 = 0 then ((k157)) else (bd1 (fX7_in p6.toInt64 (-20 : Int64) (20 : Int64)) (fun (r_7 : Int32) => if r_7 = 0 then ((k157)) else (bd1 (fX7_in p7.toInt64 (-20 : Int64) (20 : Int64)) (fun (r_8 : Int32) => if r_8 = 0 then ((k157)) else (bd1 (fX7_in p8.toInt64 (-20 : Int64) (20 : Int64)) (fun (r_9 : Int32) => if r_9 = 0 then ((k157)) else (bd1 (fX7_in p9.toInt64 (-20 : Int64) (20 : Int64)) (fun (r_10 : Int32) => if r_10 = 0 then ((k157)) else (bd1 (fX7_in p10.toInt64 (-20 : Int64) (20 : Int64)) (fun (r_11 : Int32) => if r_11 = 0 then ((k157)) else ((k158 (1 : Int32)))))))))))))))))))))))))))
def lkX7_turns : List Cond := [.constantLong RX7 189 (-20), .constantLong RX7 191 (20), .constant RX7 157 (-100002), .constant RX7 170 (-100001), .fieldLink RX7 7 "KinFormsModel" "numbers" "[I"]
def vX7_turns : List Cond := .code yX7_turns cX7_turns 15 (some .int) :: (lkX7_turns ++ (wsX70 ++ (wsV RX7 166 RX7 yX7_isForm vX7_isForm ++ (va_wsS RX7 147 yX7_in vX7_in ++ (wsV RX7 138 RX7 yX7_hold vX7_hold ++ (wsV RX7 66 RX7 yX7_valueOf vX7_valueOf ++ (wsV RX7 106 RX7 yX7_touchOf vX7_touchOf ++ ([]))))))))
theorem q_X7_turns : ∀ w ∈ vX7_turns, goodWord w = true := gd_cons rfl (gd_app (by decide +kernel) (gd_app q_wsX70 (gd_app (gd_V q_X7_isForm) (gd_app (gd_S q_X7_in) (gd_app (gd_V q_X7_hold) (gd_app (gd_V q_X7_valueOf) (gd_app (gd_V q_X7_touchOf) gd_nil)))))))
theorem g_X7_turns_X7_isForm : GoodIn vX7_turns (wsV RX7 166 RX7 yX7_isForm vX7_isForm) := gi_of (fun w h => List.mem_cons_of_mem _ (List.mem_append_right _ (List.mem_append_right _ (List.mem_append_left _ h)))) (gd_V q_X7_isForm)
theorem g_X7_turns_X7_in : GoodIn vX7_turns (va_wsS RX7 147 yX7_in vX7_in) := gi_of (fun w h => List.mem_cons_of_mem _ (List.mem_append_right _ (List.mem_append_right _ (List.mem_append_right _ (List.mem_append_left _ h))))) (gd_S q_X7_in)
theorem g_X7_turns_X7_hold : GoodIn vX7_turns (wsV RX7 138 RX7 yX7_hold vX7_hold) := gi_of (fun w h => List.mem_cons_of_mem _ (List.mem_append_right _ (List.mem_append_right _ (List.mem_append_right _ (List.mem_append_right _ (List.mem_append_left _ h)))))) (gd_V q_X7_hold)
theorem g_X7_turns_X7_valueOf : GoodIn vX7_turns (wsV RX7 66 RX7 yX7_valueOf vX7_valueOf) := gi_of (fun w h => List.mem_cons_of_mem _ (List.mem_append_right _ (List.mem_append_right _ (List.mem_append_right _ (List.mem_append_right _ (List.mem_append_right _ (List.mem_append_left _ h))))))) (gd_V q_X7_valueOf)
theorem g_X7_turns_X7_touchOf : GoodIn vX7_turns (wsV RX7 106 RX7 yX7_touchOf vX7_touchOf) := gi_of (fun w h => List.mem_cons_of_mem _ (List.mem_append_right _ (List.mem_append_right _ (List.mem_append_right _ (List.mem_append_right _ (List.mem_append_right _ (List.mem_append_right _ (List.mem_append_left _ h)))))))) (gd_V q_X7_touchOf)
abbrev rmX7_turns : Room := { frames := 2, cells := 0, slots := 0, locals := 58 }
set_option maxHeartbeats 4000000 in
set_option maxRecDepth 100000 in
theorem c_X7_turns (l : Launch) (dC : Nat → ClassId) (dI : Nat → Nat → Nat) (cI : ClassId) (cJ : ClassId) (h : Nat) (a : Nat → Nat) (fu : Nat) (sz : Nat) (forms : Int32) (prime : Int32) (turns : Int32) (lineT : Int32) (lineU : Int32) (kinds : Int32) (upper : Int64) (lower : Int64) (numbers : Nat → Int32) (q : Nat → Int64) (base : Nat → Int64) (least : Nat → Int64) (table : Nat → Int64) (rows : Nat → Int64) (lists : Nat → Int64) (listSize : Nat → Int32) (tried : Nat → Int64) (other : Nat → Int64) (line : Nat → Int64) (makers : Nat → Int64) (touches : Nat → Int64) (made : Nat → Int64) (kindForm : Nat → Int64) (kindTurns : Nat → Int32) (kindWays : Nat → Int32) (p0 : Int32) (p1 : Int32) (p2 : Int32) (p3 : Int32) (p4 : Int32) (p5 : Int32) (p6 : Int32) (p7 : Int32) (p8 : Int32) (p9 : Int32) (p10 : Int32) (ro : Int32) (o_q : Nat → Int64) (hF : fX7_turns fu forms numbers q p0 p1 p2 p3 p4 p5 p6 p7 p8 p9 p10 = some (ro, o_q)) : Met l yX7_turns vX7_turns rmX7_turns (va_Pc [.ref h, .int p0, .int p1, .int p2, .int p3, .int p4, .int p5, .int p6, .int p7, .int p8, .int p9, .int p10] (mPc (dC, dI) vwCl (mW cI cJ h a forms prime turns lineT lineU kinds upper lower numbers q base least table rows lists listSize tried other line makers touches made kindForm kindTurns kindWays) [(cI, .int), (cJ, .long)] sz)) (va_Qi (fun x (_ : Unit) => x = ro) (mPo (dC, dI) vwCl (mW cI cJ h a forms prime turns lineT lineU kinds upper lower numbers o_q base least table rows lists listSize tried other line makers touches made kindForm kindTurns kindWays) [(cI, .int), (cJ, .long)] (va_A (mW cI cJ h a forms prime turns lineT lineU kinds upper lower numbers q base least table rows lists listSize tried other line makers touches made kindForm kindTurns kindWays) sz)) (va_A (mW cI cJ h a forms prime turns lineT lineU kinds upper lower numbers q base least table rows lists listSize tried other line makers touches made kindForm kindTurns kindWays) sz)) 0 0 (va_A (mW cI cJ h a forms prime turns lineT lineU kinds upper lower numbers q base least table rows lists listSize tried other line makers touches made kindForm kindTurns kindWays) sz) := by
  refine Met.ofW (cc := cX7_turns) (maxL := 15) (ret := (some .int)) (by decide) rfl ?_
  intro p e s m args below meth c s₁ B hml hv
  obtain ⟨rfl, hsz, hP, hK, hD0⟩ := hv
  have hx := B.exec
  have hb := B.bytes
  have hr := B.returns
  have hts := atoms_spec (ws := vX7_turns) B.pre
  have hlk : ∀ w ∈ lkX7_turns, w.before _ s = true := fun w h => hts w (List.mem_cons_of_mem _ (List.mem_append_left _ h))
  have hown : s.vm.findClass RX7 = some m.cls := findClass_of_methodNamed B.named
  have hlocks := B.notSynchronized
  subst hsz
  have hD := hD0.self (sz := s.heap.size)
  generalize hAe : va_A (mW cI cJ h a forms prime turns lineT lineU kinds upper lower numbers q base least table rows lists listSize tried other line makers touches made kindForm kindTurns kindWays) s.heap.size = A at hD ⊢
  have hA : ∀ q : Nat, s.heap.size ≤ q → A q := fun q h => by rw [← hAe]; exact Or.inr h
  have hS : va_S A s.heap s.heap [] := va_S.rf
  have hinX7 : ∀ w ∈ wsX70, w ∈ vX7_turns := fun w h => List.mem_cons_of_mem _ (List.mem_append_right _ (List.mem_append_left _ h))
  have hf_7 := hlk (.fieldLink RX7 7 "KinFormsModel" "numbers" "[I") (by decide +kernel)
  have hl := lv_entry ([.ref h, .int p0, .int p1, .int p2, .int p3, .int p4, .int p5, .int p6, .int p7, .int p8, .int p9, .int p10] : List Value) (n := 15) (Nat.le_of_ble_eq_true rfl)
  rw [lg_entry_eq]
  generalize (lg_sl ([.ref h, .int p0, .int p1, .int p2, .int p3, .int p4, .int p5, .int p6, .int p7, .int p8, .int p9, .int p10] : List Value) ++ List.replicate (15 - (lg_sl ([.ref h, .int p0, .int p1, .int p2, .int p3, .int p4, .int p5, .int p6, .int p7, .int p8, .int p9, .int p10] : List Value)).length) Slot.unset).toArray = ls at hl ⊢
  have hl : lv_has ls 15 [(0, .ref h), (1, .int p0), (2, .int p1), (3, .int p2), (4, .int p3), (5, .int p4), (6, .int p5), (7, .int p6), (8, .int p7), (9, .int p8), (10, .int p9), (11, .int p10)] := hl
  unfold fX7_turns at hF
  refine W_Q (fun Q hQ => ?_)
  have hP : va_P (dC, dI) vwCl (mW cI cJ h a forms prime turns lineT lineU kinds upper lower numbers q base least table rows lists listSize tried other line makers touches made kindForm kindTurns kindWays) s.heap := hP
  refine W_HL (fun H locs eH eL => ?_)
  rw [← eH] at hP
  have hS : va_S A s.heap H locs := by rw [eH, eL]; exact hS
  refine lv_aload_n hx hb dX7_turns_0 rfl (lv_at hl 0 rfl) ?_
  refine lv_iload_n hx hb dX7_turns_1 rfl (lv_at hl 1 rfl) ?_
  obtain ⟨r_1, hc, hF⟩ := bd1_of hF
  refine rc_i (va_runV (As := [.int p0]) (rest := []) ⟨hx, hb, hml, hown, hts⟩ (c_X7_isForm l dC dI cI cJ h a forms prime turns lineT lineU kinds upper lower numbers q base least table rows lists listSize tried other line makers touches made kindForm kindTurns kindWays p0 r_1 hc) (cwV 1 hts g_X7_turns_X7_isForm rfl rfl rfl (by decide +kernel) ⟨Nat.le_of_ble_eq_true rfl, Nat.le_of_ble_eq_true rfl⟩) ⟨rPc_blind, va_recv hK hP (ci := 5) (q0 := 0) rfl rfl, rPc_at hK hP⟩ rfl rfl hl.1 rfl (lv_room (Nat.le_of_ble_eq_true rfl)) dX7_turns_2 ⟨Nat.zero_le _, Nat.zero_le _⟩) ?_
  obtain ⟨k16, e_k16, hF⟩ := nm_ex hF
  have hk16 : ∀  (H : Heap) (locs : List Loc) (ls : Array Slot), va_P (dC, dI) vwCl (mW cI cJ h a forms prime turns lineT lineU kinds upper lower numbers q base least table rows lists listSize tried other line makers touches made kindForm kindTurns kindWays) H → va_D A (mW cI cJ h a forms prime turns lineT lineU kinds upper lower numbers q base least table rows lists listSize tried other line makers touches made kindForm kindTurns kindWays) → va_S A s.heap H locs → lv_has ls 15 [] → k16 = some (ro, o_q) → W p l e rmX7_turns s m ([.ref h, .int p0, .int p1, .int p2, .int p3, .int p4, .int p5, .int p6, .int p7, .int p8, .int p9, .int p10] : List Value).toArray below meth c H locs 0 0 Q (F0 m 16 ls []) := by
    intro H locs ls hP hD hS hl hF
    have hF := ka0 e_k16 hF
    refine lv_ldc (v := (-100001)) hx hb hown (hlk (.constant RX7 170 (-100001)) (by decide +kernel)) dX7_turns_16 ?_
    obtain ⟨q0, q1⟩ := sm2 hF
    have hP : va_P (dC, dI) vwCl (mW cI cJ h a forms prime turns lineT lineU kinds upper lower numbers o_q base least table rows lists listSize tried other line makers touches made kindForm kindTurns kindWays) H := by rw [← q1]; exact hP
    have hD : va_D A (mW cI cJ h a forms prime turns lineT lineU kinds upper lower numbers o_q base least table rows lists listSize tried other line makers touches made kindForm kindTurns kindWays) := by rw [← q1]; exact hD
    refine W_Qe hQ ?_
    exact W.iret hx hb hr (fun t ht hW => ⟨⟨(-100001 : Int32), (), rfl, q0, by rw [ht]; exact hP, va_K.moved hW.alike hK, hD⟩, hS.F ht⟩) hS.2.2 dX7_turns_18
  clear e_k16
  refine lv_if_eq (tgt := 16) hx hb dX7_turns_5 (by decide) (fun c0 => ?_) (fun c0 => ?_)
  · have hF := if_t hF c0
    exact hk16 H locs ls hP hD hS (lv_sub hl [] rfl) hF
  · have hF := if_f hF c0
    refine lv_aload_n hx hb dX7_turns_8 rfl (lv_at hl 0 rfl) ?_
    refine lv_iload_n hx hb dX7_turns_9 rfl (lv_at hl 2 rfl) ?_
    obtain ⟨r_2, hc, hF⟩ := bd1_of hF
    refine rc_i (va_runV (As := [.int p1]) (rest := []) ⟨hx, hb, hml, hown, hts⟩ (c_X7_isForm l dC dI cI cJ h a forms prime turns lineT lineU kinds upper lower numbers q base least table rows lists listSize tried other line makers touches made kindForm kindTurns kindWays p1 r_2 hc) (cwV 1 hts g_X7_turns_X7_isForm rfl rfl rfl (by decide +kernel) ⟨Nat.le_of_ble_eq_true rfl, Nat.le_of_ble_eq_true rfl⟩) ⟨rPc_blind, va_recv hK hP (ci := 5) (q0 := 0) rfl rfl, rPc_at hK hP⟩ rfl rfl hl.1 rfl (lv_room (Nat.le_of_ble_eq_true rfl)) dX7_turns_10 ⟨Nat.zero_le _, Nat.zero_le _⟩) ?_
    refine lv_if_ne (tgt := 19) hx hb dX7_turns_13 (by decide) (fun c0 => ?_) (fun c0 => ?_)
    · have hF := if_f hF c0
      refine lv_iload_n hx hb dX7_turns_19 rfl (lv_at hl 3 rfl) ?_
      refine lv_i2l (v := p2.toInt64) hx hb dX7_turns_20 rfl ?_
      refine lv_ldc2 (v := (-20)) hx hb hown (hlk (.constantLong RX7 189 (-20)) (by decide +kernel)) dX7_turns_21 ?_
      refine lv_ldc2 (v := (20)) hx hb hown (hlk (.constantLong RX7 191 (20)) (by decide +kernel)) dX7_turns_24 ?_
      obtain ⟨r_3, hc, hF⟩ := bd1_of hF
      refine rc_i (va_runS (As := [.long p2.toInt64, .long (-20 : Int64), .long (20 : Int64)]) (rest := []) ⟨hx, hb, hml, hown, hts⟩ (c_X7_in l p2.toInt64 (-20 : Int64) (20 : Int64) r_3 hc) (va_cwS 3 hts g_X7_turns_X7_in rfl rfl rfl (by decide +kernel) ⟨Nat.le_of_ble_eq_true rfl, Nat.le_of_ble_eq_true rfl⟩) ⟨tPc_blind, tPc_at⟩ rfl rfl hl.1 rfl (lv_room (Nat.le_of_ble_eq_true rfl)) dX7_turns_27 ⟨Nat.zero_le _, Nat.zero_le _⟩) ?_
      obtain ⟨k158, e_k158, hF⟩ := nm_ex hF
      have hk158 : ∀ (s_12 : Int32) (H : Heap) (locs : List Loc) (ls : Array Slot), va_P (dC, dI) vwCl (mW cI cJ h a forms prime turns lineT lineU kinds upper lower numbers q base least table rows lists listSize tried other line makers touches made kindForm kindTurns kindWays) H → va_D A (mW cI cJ h a forms prime turns lineT lineU kinds upper lower numbers q base least table rows lists listSize tried other line makers touches made kindForm kindTurns kindWays) → va_S A s.heap H locs → lv_has ls 15 [(0, .ref h), (1, .int p0), (2, .int p1), (3, .int p2), (4, .int p3), (5, .int p4), (6, .int p5), (7, .int p6), (8, .int p7), (9, .int p8), (10, .int p9), (11, .int p10)] → k158 s_12 = some (ro, o_q) → W p l e rmX7_turns s m ([.ref h, .int p0, .int p1, .int p2, .int p3, .int p4, .int p5, .int p6, .int p7, .int p8, .int p9, .int p10] : List Value).toArray below meth c H locs 0 0 Q (F0 m 158 ls [.int s_12]) := by
        intro s_12 H locs ls hP hD hS hl hF
        have hF := ka1 e_k158 hF
        refine lv_istore (lv' := [(12, .int s_12), (0, .ref h), (1, .int p0), (2, .int p1), (3, .int p2), (4, .int p3), (5, .int p4), (6, .int p5), (7, .int p6), (8, .int p7), (9, .int p8), (10, .int p9), (11, .int p10)]) hx hb dX7_turns_158 hl (by decide) rfl (fun ls hl => ?_)
        refine lv_iload hx hb dX7_turns_160 (lv_at hl 0 rfl) ?_
        refine lv_if_ne (tgt := 168) hx hb dX7_turns_162 (by decide) (fun c0 => ?_) (fun c0 => ?_)
        · have hF := if_f hF c0
          refine lv_iload_n hx hb dX7_turns_168 rfl (lv_at hl 4 rfl) ?_
          refine lv_iload hx hb dX7_turns_169 (lv_at hl 8 rfl) ?_
          refine lv_iload hx hb dX7_turns_171 (lv_at hl 12 rfl) ?_
          refine lv_imul hx hb dX7_turns_173 ?_
          refine lv_iload hx hb dX7_turns_174 (lv_at hl 9 rfl) ?_
          refine lv_iload hx hb dX7_turns_176 (lv_at hl 11 rfl) ?_
          refine lv_imul hx hb dX7_turns_178 ?_
          refine lv_isub hx hb dX7_turns_179 ?_
          refine lv_imul hx hb dX7_turns_180 ?_
          refine lv_iload hx hb dX7_turns_181 (lv_at hl 5 rfl) ?_
          refine lv_iload hx hb dX7_turns_183 (lv_at hl 9 rfl) ?_
          refine lv_iload hx hb dX7_turns_185 (lv_at hl 10 rfl) ?_
          refine lv_imul hx hb dX7_turns_187 ?_
          refine lv_iload hx hb dX7_turns_188 (lv_at hl 7 rfl) ?_
          refine lv_iload hx hb dX7_turns_190 (lv_at hl 12 rfl) ?_
          refine lv_imul hx hb dX7_turns_192 ?_
          refine lv_isub hx hb dX7_turns_193 ?_
          refine lv_imul hx hb dX7_turns_194 ?_
          refine lv_iadd hx hb dX7_turns_195 ?_
          refine lv_iload hx hb dX7_turns_196 (lv_at hl 6 rfl) ?_
          refine lv_iload hx hb dX7_turns_198 (lv_at hl 7 rfl) ?_
          refine lv_iload hx hb dX7_turns_200 (lv_at hl 11 rfl) ?_
          refine lv_imul hx hb dX7_turns_202 ?_
          refine lv_iload hx hb dX7_turns_203 (lv_at hl 8 rfl) ?_
          refine lv_iload hx hb dX7_turns_205 (lv_at hl 10 rfl) ?_
          refine lv_imul hx hb dX7_turns_207 ?_
          refine lv_isub hx hb dX7_turns_208 ?_
          refine lv_imul hx hb dX7_turns_209 ?_
          refine lv_iadd hx hb dX7_turns_210 ?_
          refine lv_topi (fun x13_13 e_x13_13 => ?_)
          have hF := nm_at hF e_x13_13
          refine lv_istore (lv' := [(13, .int x13_13), (12, .int s_12), (0, .ref h), (1, .int p0), (2, .int p1), (3, .int p2), (4, .int p3), (5, .int p4), (6, .int p5), (7, .int p6), (8, .int p7), (9, .int p8), (10, .int p9), (11, .int p10)]) hx hb dX7_turns_211 hl (by decide) rfl (fun ls hl => ?_)
          refine lv_iload hx hb dX7_turns_213 (lv_at hl 0 rfl) ?_
          refine lv_iconst (v := 1) hx hb dX7_turns_215 (by decide) ?_
          obtain ⟨k227, e_k227, hF⟩ := nm_ex hF
          have hk227 : ∀  (H : Heap) (locs : List Loc) (ls : Array Slot), va_P (dC, dI) vwCl (mW cI cJ h a forms prime turns lineT lineU kinds upper lower numbers q base least table rows lists listSize tried other line makers touches made kindForm kindTurns kindWays) H → va_D A (mW cI cJ h a forms prime turns lineT lineU kinds upper lower numbers q base least table rows lists listSize tried other line makers touches made kindForm kindTurns kindWays) → va_S A s.heap H locs → lv_has ls 15 [(0, .ref h), (1, .int p0), (2, .int p1), (3, .int p2), (4, .int p3), (5, .int p4), (6, .int p5), (7, .int p6), (8, .int p7), (9, .int p8), (10, .int p9), (11, .int p10)] → k227 = some (ro, o_q) → W p l e rmX7_turns s m ([.ref h, .int p0, .int p1, .int p2, .int p3, .int p4, .int p5, .int p6, .int p7, .int p8, .int p9, .int p10] : List Value).toArray below meth c H locs 0 0 Q (F0 m 227 ls []) := by
            intro H locs ls hP hD hS hl hF
            have hF := ka0 e_k227 hF
            refine lv_aload_n hx hb dX7_turns_227 rfl (lv_at hl 0 rfl) ?_
            refine lv_iload_n hx hb dX7_turns_228 rfl (lv_at hl 1 rfl) ?_
            obtain ⟨q_14, hc, hF⟩ := bd1_of hF
            refine mc_v (va_runV (As := [.int p0]) (rest := []) ⟨hx, hb, hml, hown, hts⟩ (c_X7_hold l dC dI cI cJ h a fu H.size forms prime turns lineT lineU kinds upper lower numbers q base least table rows lists listSize tried other line makers touches made kindForm kindTurns kindWays p0 q_14 hc) (cwV 1 hts g_X7_turns_X7_hold rfl rfl rfl (by decide +kernel) ⟨Nat.le_of_ble_eq_true rfl, Nat.le_of_ble_eq_true rfl⟩) ⟨mPc_blind, va_recv hK hP (ci := 5) (q0 := 0) rfl rfl, mPc_at hK hP hD⟩ rfl rfl hl.1 rfl (lv_room (Nat.le_of_ble_eq_true rfl)) dX7_turns_229 ⟨Nat.zero_le _, Nat.zero_le _⟩) hS (fr_all hD hS hA) (fun H locs hP hD hS => ?_)
            refine lv_aload_n hx hb dX7_turns_232 rfl (lv_at hl 0 rfl) ?_
            refine lv_iload_n hx hb dX7_turns_233 rfl (lv_at hl 3 rfl) ?_
            refine lv_i2l (v := p2.toInt64) hx hb dX7_turns_234 rfl ?_
            refine lv_iload hx hb dX7_turns_235 (lv_at hl 4 rfl) ?_
            refine lv_i2l (v := p3.toInt64) hx hb dX7_turns_237 rfl ?_
            refine lv_iload hx hb dX7_turns_238 (lv_at hl 5 rfl) ?_
            refine lv_i2l (v := p4.toInt64) hx hb dX7_turns_240 rfl ?_
            obtain ⟨r_15, hc, hF⟩ := bd1_of hF
            refine rc_l (va_runV (As := [.long p2.toInt64, .long p3.toInt64, .long p4.toInt64]) (rest := []) ⟨hx, hb, hml, hown, hts⟩ (c_X7_valueOf l dC dI cI cJ h a forms prime turns lineT lineU kinds upper lower numbers q_14 base least table rows lists listSize tried other line makers touches made kindForm kindTurns kindWays p2.toInt64 p3.toInt64 p4.toInt64 r_15 hc) (cwV 3 hts g_X7_turns_X7_valueOf rfl rfl rfl (by decide +kernel) ⟨Nat.le_of_ble_eq_true rfl, Nat.le_of_ble_eq_true rfl⟩) ⟨rPc_blind, va_recv hK hP (ci := 5) (q0 := 0) rfl rfl, rPc_at hK hP⟩ rfl rfl hl.1 rfl (lv_room (Nat.le_of_ble_eq_true rfl)) dX7_turns_241 ⟨Nat.zero_le _, Nat.zero_le _⟩) ?_
            refine lv_aload_n hx hb dX7_turns_244 rfl (lv_at hl 0 rfl) ?_
            refine va_get (D := (dC, dI)) (ci := 5) (v := .ref (a 1)) (C := RX7) (T := TX7) (N := 25) hx hb hts hinX7 hown hK hP 0 rfl rfl 1 (by decide) hf_7 (fun _ h9 => h9) rfl dX7_turns_245 ?_
            refine lv_bipush (v := (6)) hx hb dX7_turns_248 (by decide) ?_
            refine lv_iload_n hx hb dX7_turns_250 rfl (lv_at hl 2 rfl) ?_
            refine lv_imul hx hb dX7_turns_251 ?_
            refine lv_topi (fun v_16 e_v_16 => ?_)
            have hF := nm_at hF e_v_16
            obtain ⟨hi, hF⟩ := ck_of hF
            refine va_iald hx hb hK hP 1 0 rfl rfl hi dX7_turns_252 ?_
            refine lv_i2l (v := (numbers v_16.toNatClampNeg).toInt64) hx hb dX7_turns_253 rfl ?_
            refine W.lcmp hx hb dX7_turns_254 ?_
            obtain ⟨k321, e_k321, hF⟩ := nm_ex hF
            have hk321 : ∀ (s_21 : Int32) (H : Heap) (locs : List Loc) (ls : Array Slot), va_P (dC, dI) vwCl (mW cI cJ h a forms prime turns lineT lineU kinds upper lower numbers q_14 base least table rows lists listSize tried other line makers touches made kindForm kindTurns kindWays) H → va_D A (mW cI cJ h a forms prime turns lineT lineU kinds upper lower numbers q_14 base least table rows lists listSize tried other line makers touches made kindForm kindTurns kindWays) → va_S A s.heap H locs → lv_has ls 15 [(0, .ref h), (2, .int p1), (3, .int p2), (4, .int p3), (5, .int p4), (6, .int p5), (7, .int p6), (8, .int p7), (9, .int p8), (10, .int p9), (11, .int p10)] → k321 s_21 = some (ro, o_q) → W p l e rmX7_turns s m ([.ref h, .int p0, .int p1, .int p2, .int p3, .int p4, .int p5, .int p6, .int p7, .int p8, .int p9, .int p10] : List Value).toArray below meth c H locs 0 0 Q (F0 m 321 ls [.int s_21]) := by
              intro s_21 H locs ls hP hD hS hl hF
              have hF := ka1 e_k321 hF
              refine lv_istore (lv' := [(14, .int s_21), (0, .ref h), (2, .int p1), (3, .int p2), (4, .int p3), (5, .int p4), (6, .int p5), (7, .int p6), (8, .int p7), (9, .int p8), (10, .int p9), (11, .int p10)]) hx hb dX7_turns_321 hl (by decide) rfl (fun ls hl => ?_)
              refine lv_iload hx hb dX7_turns_323 (lv_at hl 0 rfl) ?_
              obtain ⟨k445, e_k445, hF⟩ := nm_ex hF
              have hk445 : ∀ (s_28 : Int32) (H : Heap) (locs : List Loc) (ls : Array Slot), va_P (dC, dI) vwCl (mW cI cJ h a forms prime turns lineT lineU kinds upper lower numbers q_14 base least table rows lists listSize tried other line makers touches made kindForm kindTurns kindWays) H → va_D A (mW cI cJ h a forms prime turns lineT lineU kinds upper lower numbers q_14 base least table rows lists listSize tried other line makers touches made kindForm kindTurns kindWays) → va_S A s.heap H locs → lv_has ls 15 [] → k445 s_28 = some (ro, o_q) → W p l e rmX7_turns s m ([.ref h, .int p0, .int p1, .int p2, .int p3, .int p4, .int p5, .int p6, .int p7, .int p8, .int p9, .int p10] : List Value).toArray below meth c H locs 0 0 Q (F0 m 445 ls [.int s_28]) := by
                intro s_28 H locs ls hP hD hS hl hF
                have hF := ka1 e_k445 hF
                refine lv_istore (lv' := [(14, .int s_28)]) hx hb dX7_turns_445 hl (by decide) rfl (fun ls hl => ?_)
                refine lv_iload hx hb dX7_turns_447 (lv_at hl 0 rfl) ?_
                obtain ⟨k457, e_k457, hF⟩ := nm_ex hF
                have hk457 : ∀ (s_29 : Int32) (H : Heap) (locs : List Loc) (ls : Array Slot), va_P (dC, dI) vwCl (mW cI cJ h a forms prime turns lineT lineU kinds upper lower numbers q_14 base least table rows lists listSize tried other line makers touches made kindForm kindTurns kindWays) H → va_D A (mW cI cJ h a forms prime turns lineT lineU kinds upper lower numbers q_14 base least table rows lists listSize tried other line makers touches made kindForm kindTurns kindWays) → va_S A s.heap H locs → lv_has ls 15 [] → k457 s_29 = some (ro, o_q) → W p l e rmX7_turns s m ([.ref h, .int p0, .int p1, .int p2, .int p3, .int p4, .int p5, .int p6, .int p7, .int p8, .int p9, .int p10] : List Value).toArray below meth c H locs 0 0 Q (F0 m 457 ls [.int s_29]) := by
                  intro s_29 H locs ls hP hD hS hl hF
                  have hF := ka1 e_k457 hF
                  obtain ⟨q0, q1⟩ := sm2 hF
                  have hP : va_P (dC, dI) vwCl (mW cI cJ h a forms prime turns lineT lineU kinds upper lower numbers o_q base least table rows lists listSize tried other line makers touches made kindForm kindTurns kindWays) H := by rw [← q1]; exact hP
                  have hD : va_D A (mW cI cJ h a forms prime turns lineT lineU kinds upper lower numbers o_q base least table rows lists listSize tried other line makers touches made kindForm kindTurns kindWays) := by rw [← q1]; exact hD
                  refine W_Qe hQ ?_
                  exact W.iret hx hb hr (fun t ht hW => ⟨⟨s_29, (), rfl, q0, by rw [ht]; exact hP, va_K.moved hW.alike hK, hD⟩, hS.F ht⟩) hS.2.2 dX7_turns_457
                clear e_k457
                refine lv_if_eq (tgt := 456) hx hb dX7_turns_449 (by decide) (fun c0 => ?_) (fun c0 => ?_)
                · have hF := if_t hF c0
                  refine lv_iconst (v := 0) hx hb dX7_turns_456 (by decide) ?_
                  exact hk457 (0 : Int32) H locs ls hP hD hS (lv_sub hl [] rfl) hF
                · have hF := if_f hF c0
                  refine lv_iconst (v := 1) hx hb dX7_turns_452 (by decide) ?_
                  refine lv_goto (tgt := 457) hx hb dX7_turns_453 (by decide) ?_
                  exact hk457 (1 : Int32) H locs ls hP hD hS (lv_sub hl [] rfl) hF
              clear e_k445
              obtain ⟨k444, e_k444, hF⟩ := nm_ex hF
              have hk444 : ∀  (H : Heap) (locs : List Loc) (ls : Array Slot), va_P (dC, dI) vwCl (mW cI cJ h a forms prime turns lineT lineU kinds upper lower numbers q_14 base least table rows lists listSize tried other line makers touches made kindForm kindTurns kindWays) H → va_D A (mW cI cJ h a forms prime turns lineT lineU kinds upper lower numbers q_14 base least table rows lists listSize tried other line makers touches made kindForm kindTurns kindWays) → va_S A s.heap H locs → lv_has ls 15 [] → k444 = some (ro, o_q) → W p l e rmX7_turns s m ([.ref h, .int p0, .int p1, .int p2, .int p3, .int p4, .int p5, .int p6, .int p7, .int p8, .int p9, .int p10] : List Value).toArray below meth c H locs 0 0 Q (F0 m 444 ls []) := by
                intro H locs ls hP hD hS hl hF
                have hF := ka0 e_k444 hF
                refine lv_iconst (v := 0) hx hb dX7_turns_444 (by decide) ?_
                exact hk445 (0 : Int32) H locs ls hP hD hS (lv_sub hl [] rfl) hF
              clear e_k444
              refine lv_if_eq (tgt := 444) hx hb dX7_turns_325 (by decide) (fun c0 => ?_) (fun c0 => ?_)
              · have hF := if_t hF c0
                exact hk444 H locs ls hP hD hS (lv_sub hl [] rfl) hF
              · have hF := if_f hF c0
                refine lv_aload_n hx hb dX7_turns_328 rfl (lv_at hl 1 rfl) ?_
                refine lv_iload hx hb dX7_turns_329 (lv_at hl 6 rfl) ?_
                refine lv_i2l (v := p5.toInt64) hx hb dX7_turns_331 rfl ?_
                refine lv_iload hx hb dX7_turns_332 (lv_at hl 7 rfl) ?_
                refine lv_i2l (v := p6.toInt64) hx hb dX7_turns_334 rfl ?_
                refine lv_iload hx hb dX7_turns_335 (lv_at hl 8 rfl) ?_
                refine lv_i2l (v := p7.toInt64) hx hb dX7_turns_337 rfl ?_
                refine lv_iload hx hb dX7_turns_338 (lv_at hl 9 rfl) ?_
                refine lv_i2l (v := p8.toInt64) hx hb dX7_turns_340 rfl ?_
                refine lv_iload hx hb dX7_turns_341 (lv_at hl 10 rfl) ?_
                refine lv_i2l (v := p9.toInt64) hx hb dX7_turns_343 rfl ?_
                refine lv_iload hx hb dX7_turns_344 (lv_at hl 11 rfl) ?_
                refine lv_i2l (v := p10.toInt64) hx hb dX7_turns_346 rfl ?_
                obtain ⟨r_22, hc, hF⟩ := bd1_of hF
                refine rc_l (va_runV (As := [.long p5.toInt64, .long p6.toInt64, .long p7.toInt64, .long p8.toInt64, .long p9.toInt64, .long p10.toInt64]) (rest := []) ⟨hx, hb, hml, hown, hts⟩ (c_X7_touchOf l dC dI cI cJ h a forms prime turns lineT lineU kinds upper lower numbers q_14 base least table rows lists listSize tried other line makers touches made kindForm kindTurns kindWays p5.toInt64 p6.toInt64 p7.toInt64 p8.toInt64 p9.toInt64 p10.toInt64 r_22 hc) (cwV 6 hts g_X7_turns_X7_touchOf rfl rfl rfl (by decide +kernel) ⟨Nat.le_of_ble_eq_true rfl, Nat.le_of_ble_eq_true rfl⟩) ⟨rPc_blind, va_recv hK hP (ci := 5) (q0 := 0) rfl rfl, rPc_at hK hP⟩ rfl rfl hl.1 rfl (lv_room (Nat.le_of_ble_eq_true rfl)) dX7_turns_347 ⟨Nat.zero_le _, Nat.zero_le _⟩) ?_
                refine lv_aload_n hx hb dX7_turns_350 rfl (lv_at hl 1 rfl) ?_
                refine va_get (D := (dC, dI)) (ci := 5) (v := .ref (a 1)) (C := RX7) (T := TX7) (N := 25) hx hb hts hinX7 hown hK hP 0 rfl rfl 1 (by decide) hf_7 (fun _ h9 => h9) rfl dX7_turns_351 ?_
                refine lv_bipush (v := (6)) hx hb dX7_turns_354 (by decide) ?_
                refine lv_iload_n hx hb dX7_turns_356 rfl (lv_at hl 2 rfl) ?_
                refine lv_imul hx hb dX7_turns_357 ?_
                refine lv_iconst (v := 3) hx hb dX7_turns_358 (by decide) ?_
                refine lv_iadd hx hb dX7_turns_359 ?_
                refine lv_topi (fun v_23 e_v_23 => ?_)
                have hF := nm_at hF e_v_23
                obtain ⟨hi, hF⟩ := ck_of hF
                refine va_iald hx hb hK hP 1 0 rfl rfl hi dX7_turns_360 ?_
                refine lv_i2l (v := (numbers v_23.toNatClampNeg).toInt64) hx hb dX7_turns_361 rfl ?_
                refine W.lcmp hx hb dX7_turns_362 ?_
                refine lv_if_ne (tgt := 444) hx hb dX7_turns_363 (by decide) (fun c0 => ?_) (fun c0 => ?_)
                · have c0 := (not_congr (lg_cmp_eq _ _)).mp c0
                  have hF := if_f hF c0
                  exact hk444 H locs ls hP hD hS (lv_sub hl [] rfl) hF
                · have c0 := (lg_cmp_eq _ _).mp c0
                  have hF := if_t hF c0
                  refine lv_aload_n hx hb dX7_turns_366 rfl (lv_at hl 1 rfl) ?_
                  refine lv_iload_n hx hb dX7_turns_367 rfl (lv_at hl 3 rfl) ?_
                  refine lv_i2l (v := p2.toInt64) hx hb dX7_turns_368 rfl ?_
                  refine lv_iload hx hb dX7_turns_369 (lv_at hl 4 rfl) ?_
                  refine lv_i2l (v := p3.toInt64) hx hb dX7_turns_371 rfl ?_
                  refine lv_iload hx hb dX7_turns_372 (lv_at hl 5 rfl) ?_
                  refine lv_i2l (v := p4.toInt64) hx hb dX7_turns_374 rfl ?_
                  refine lv_iload hx hb dX7_turns_375 (lv_at hl 9 rfl) ?_
                  refine lv_i2l (v := p8.toInt64) hx hb dX7_turns_377 rfl ?_
                  refine lv_iload hx hb dX7_turns_378 (lv_at hl 10 rfl) ?_
                  refine lv_i2l (v := p9.toInt64) hx hb dX7_turns_380 rfl ?_
                  refine lv_iload hx hb dX7_turns_381 (lv_at hl 11 rfl) ?_
                  refine lv_i2l (v := p10.toInt64) hx hb dX7_turns_383 rfl ?_
                  obtain ⟨r_24, hc, hF⟩ := bd1_of hF
                  refine rc_l (va_runV (As := [.long p2.toInt64, .long p3.toInt64, .long p4.toInt64, .long p8.toInt64, .long p9.toInt64, .long p10.toInt64]) (rest := []) ⟨hx, hb, hml, hown, hts⟩ (c_X7_touchOf l dC dI cI cJ h a forms prime turns lineT lineU kinds upper lower numbers q_14 base least table rows lists listSize tried other line makers touches made kindForm kindTurns kindWays p2.toInt64 p3.toInt64 p4.toInt64 p8.toInt64 p9.toInt64 p10.toInt64 r_24 hc) (cwV 6 hts g_X7_turns_X7_touchOf rfl rfl rfl (by decide +kernel) ⟨Nat.le_of_ble_eq_true rfl, Nat.le_of_ble_eq_true rfl⟩) ⟨rPc_blind, va_recv hK hP (ci := 5) (q0 := 0) rfl rfl, rPc_at hK hP⟩ rfl rfl hl.1 rfl (lv_room (Nat.le_of_ble_eq_true rfl)) dX7_turns_384 ⟨Nat.zero_le _, Nat.zero_le _⟩) ?_
                  refine lv_aload_n hx hb dX7_turns_387 rfl (lv_at hl 1 rfl) ?_
                  refine va_get (D := (dC, dI)) (ci := 5) (v := .ref (a 1)) (C := RX7) (T := TX7) (N := 25) hx hb hts hinX7 hown hK hP 0 rfl rfl 1 (by decide) hf_7 (fun _ h9 => h9) rfl dX7_turns_388 ?_
                  refine lv_bipush (v := (6)) hx hb dX7_turns_391 (by decide) ?_
                  refine lv_iload_n hx hb dX7_turns_393 rfl (lv_at hl 2 rfl) ?_
                  refine lv_imul hx hb dX7_turns_394 ?_
                  refine lv_iconst (v := 4) hx hb dX7_turns_395 (by decide) ?_
                  refine lv_iadd hx hb dX7_turns_396 ?_
                  refine lv_topi (fun v_25 e_v_25 => ?_)
                  have hF := nm_at hF e_v_25
                  obtain ⟨hi, hF⟩ := ck_of hF
                  refine va_iald hx hb hK hP 1 0 rfl rfl hi dX7_turns_397 ?_
                  refine lv_i2l (v := (numbers v_25.toNatClampNeg).toInt64) hx hb dX7_turns_398 rfl ?_
                  refine W.lcmp hx hb dX7_turns_399 ?_
                  refine lv_if_ne (tgt := 444) hx hb dX7_turns_400 (by decide) (fun c0 => ?_) (fun c0 => ?_)
                  · have c0 := (not_congr (lg_cmp_eq _ _)).mp c0
                    have hF := if_f hF c0
                    exact hk444 H locs ls hP hD hS (lv_sub hl [] rfl) hF
                  · have c0 := (lg_cmp_eq _ _).mp c0
                    have hF := if_t hF c0
                    refine lv_aload_n hx hb dX7_turns_403 rfl (lv_at hl 1 rfl) ?_
                    refine lv_iload_n hx hb dX7_turns_404 rfl (lv_at hl 3 rfl) ?_
                    refine lv_i2l (v := p2.toInt64) hx hb dX7_turns_405 rfl ?_
                    refine lv_iload hx hb dX7_turns_406 (lv_at hl 4 rfl) ?_
                    refine lv_i2l (v := p3.toInt64) hx hb dX7_turns_408 rfl ?_
                    refine lv_iload hx hb dX7_turns_409 (lv_at hl 5 rfl) ?_
                    refine lv_i2l (v := p4.toInt64) hx hb dX7_turns_411 rfl ?_
                    refine lv_iload hx hb dX7_turns_412 (lv_at hl 6 rfl) ?_
                    refine lv_i2l (v := p5.toInt64) hx hb dX7_turns_414 rfl ?_
                    refine lv_iload hx hb dX7_turns_415 (lv_at hl 7 rfl) ?_
                    refine lv_i2l (v := p6.toInt64) hx hb dX7_turns_417 rfl ?_
                    refine lv_iload hx hb dX7_turns_418 (lv_at hl 8 rfl) ?_
                    refine lv_i2l (v := p7.toInt64) hx hb dX7_turns_420 rfl ?_
                    obtain ⟨r_26, hc, hF⟩ := bd1_of hF
                    refine rc_l (va_runV (As := [.long p2.toInt64, .long p3.toInt64, .long p4.toInt64, .long p5.toInt64, .long p6.toInt64, .long p7.toInt64]) (rest := []) ⟨hx, hb, hml, hown, hts⟩ (c_X7_touchOf l dC dI cI cJ h a forms prime turns lineT lineU kinds upper lower numbers q_14 base least table rows lists listSize tried other line makers touches made kindForm kindTurns kindWays p2.toInt64 p3.toInt64 p4.toInt64 p5.toInt64 p6.toInt64 p7.toInt64 r_26 hc) (cwV 6 hts g_X7_turns_X7_touchOf rfl rfl rfl (by decide +kernel) ⟨Nat.le_of_ble_eq_true rfl, Nat.le_of_ble_eq_true rfl⟩) ⟨rPc_blind, va_recv hK hP (ci := 5) (q0 := 0) rfl rfl, rPc_at hK hP⟩ rfl rfl hl.1 rfl (lv_room (Nat.le_of_ble_eq_true rfl)) dX7_turns_421 ⟨Nat.zero_le _, Nat.zero_le _⟩) ?_
                    refine lv_aload_n hx hb dX7_turns_424 rfl (lv_at hl 1 rfl) ?_
                    refine va_get (D := (dC, dI)) (ci := 5) (v := .ref (a 1)) (C := RX7) (T := TX7) (N := 25) hx hb hts hinX7 hown hK hP 0 rfl rfl 1 (by decide) hf_7 (fun _ h9 => h9) rfl dX7_turns_425 ?_
                    refine lv_bipush (v := (6)) hx hb dX7_turns_428 (by decide) ?_
                    refine lv_iload_n hx hb dX7_turns_430 rfl (lv_at hl 2 rfl) ?_
                    refine lv_imul hx hb dX7_turns_431 ?_
                    refine lv_iconst (v := 5) hx hb dX7_turns_432 (by decide) ?_
                    refine lv_iadd hx hb dX7_turns_433 ?_
                    refine lv_topi (fun v_27 e_v_27 => ?_)
                    have hF := nm_at hF e_v_27
                    obtain ⟨hi, hF⟩ := ck_of hF
                    refine va_iald hx hb hK hP 1 0 rfl rfl hi dX7_turns_434 ?_
                    refine lv_i2l (v := (numbers v_27.toNatClampNeg).toInt64) hx hb dX7_turns_435 rfl ?_
                    refine W.lcmp hx hb dX7_turns_436 ?_
                    refine lv_if_ne (tgt := 444) hx hb dX7_turns_437 (by decide) (fun c0 => ?_) (fun c0 => ?_)
                    · have c0 := (not_congr (lg_cmp_eq _ _)).mp c0
                      have hF := if_f hF c0
                      exact hk444 H locs ls hP hD hS (lv_sub hl [] rfl) hF
                    · have c0 := (lg_cmp_eq _ _).mp c0
                      have hF := if_t hF c0
                      refine lv_iconst (v := 1) hx hb dX7_turns_440 (by decide) ?_
                      refine lv_goto (tgt := 445) hx hb dX7_turns_441 (by decide) ?_
                      exact hk445 (1 : Int32) H locs ls hP hD hS (lv_sub hl [] rfl) hF
            clear e_k321
            obtain ⟨k320, e_k320, hF⟩ := nm_ex hF
            have hk320 : ∀  (H : Heap) (locs : List Loc) (ls : Array Slot), va_P (dC, dI) vwCl (mW cI cJ h a forms prime turns lineT lineU kinds upper lower numbers q_14 base least table rows lists listSize tried other line makers touches made kindForm kindTurns kindWays) H → va_D A (mW cI cJ h a forms prime turns lineT lineU kinds upper lower numbers q_14 base least table rows lists listSize tried other line makers touches made kindForm kindTurns kindWays) → va_S A s.heap H locs → lv_has ls 15 [(0, .ref h), (2, .int p1), (3, .int p2), (4, .int p3), (5, .int p4), (6, .int p5), (7, .int p6), (8, .int p7), (9, .int p8), (10, .int p9), (11, .int p10)] → k320 = some (ro, o_q) → W p l e rmX7_turns s m ([.ref h, .int p0, .int p1, .int p2, .int p3, .int p4, .int p5, .int p6, .int p7, .int p8, .int p9, .int p10] : List Value).toArray below meth c H locs 0 0 Q (F0 m 320 ls []) := by
              intro H locs ls hP hD hS hl hF
              have hF := ka0 e_k320 hF
              refine lv_iconst (v := 0) hx hb dX7_turns_320 (by decide) ?_
              exact hk321 (0 : Int32) H locs ls hP hD hS (lv_sub hl [0, 1, 2, 3, 4, 5, 6, 7, 8, 9, 10] rfl) hF
            clear e_k320
            refine lv_if_ne (tgt := 320) hx hb dX7_turns_255 (by decide) (fun c0 => ?_) (fun c0 => ?_)
            · have c0 := (not_congr (lg_cmp_eq _ _)).mp c0
              have hF := if_f hF c0
              exact hk320 H locs ls hP hD hS (lv_sub hl [0, 2, 3, 4, 5, 6, 7, 8, 9, 10, 11] rfl) hF
            · have c0 := (lg_cmp_eq _ _).mp c0
              have hF := if_t hF c0
              refine lv_aload_n hx hb dX7_turns_258 rfl (lv_at hl 0 rfl) ?_
              refine lv_iload hx hb dX7_turns_259 (lv_at hl 6 rfl) ?_
              refine lv_i2l (v := p5.toInt64) hx hb dX7_turns_261 rfl ?_
              refine lv_iload hx hb dX7_turns_262 (lv_at hl 7 rfl) ?_
              refine lv_i2l (v := p6.toInt64) hx hb dX7_turns_264 rfl ?_
              refine lv_iload hx hb dX7_turns_265 (lv_at hl 8 rfl) ?_
              refine lv_i2l (v := p7.toInt64) hx hb dX7_turns_267 rfl ?_
              obtain ⟨r_17, hc, hF⟩ := bd1_of hF
              refine rc_l (va_runV (As := [.long p5.toInt64, .long p6.toInt64, .long p7.toInt64]) (rest := []) ⟨hx, hb, hml, hown, hts⟩ (c_X7_valueOf l dC dI cI cJ h a forms prime turns lineT lineU kinds upper lower numbers q_14 base least table rows lists listSize tried other line makers touches made kindForm kindTurns kindWays p5.toInt64 p6.toInt64 p7.toInt64 r_17 hc) (cwV 3 hts g_X7_turns_X7_valueOf rfl rfl rfl (by decide +kernel) ⟨Nat.le_of_ble_eq_true rfl, Nat.le_of_ble_eq_true rfl⟩) ⟨rPc_blind, va_recv hK hP (ci := 5) (q0 := 0) rfl rfl, rPc_at hK hP⟩ rfl rfl hl.1 rfl (lv_room (Nat.le_of_ble_eq_true rfl)) dX7_turns_268 ⟨Nat.zero_le _, Nat.zero_le _⟩) ?_
              refine lv_aload_n hx hb dX7_turns_271 rfl (lv_at hl 0 rfl) ?_
              refine va_get (D := (dC, dI)) (ci := 5) (v := .ref (a 1)) (C := RX7) (T := TX7) (N := 25) hx hb hts hinX7 hown hK hP 0 rfl rfl 1 (by decide) hf_7 (fun _ h9 => h9) rfl dX7_turns_272 ?_
              refine lv_bipush (v := (6)) hx hb dX7_turns_275 (by decide) ?_
              refine lv_iload_n hx hb dX7_turns_277 rfl (lv_at hl 2 rfl) ?_
              refine lv_imul hx hb dX7_turns_278 ?_
              refine lv_iconst (v := 1) hx hb dX7_turns_279 (by decide) ?_
              refine lv_iadd hx hb dX7_turns_280 ?_
              refine lv_topi (fun v_18 e_v_18 => ?_)
              have hF := nm_at hF e_v_18
              obtain ⟨hi, hF⟩ := ck_of hF
              refine va_iald hx hb hK hP 1 0 rfl rfl hi dX7_turns_281 ?_
              refine lv_i2l (v := (numbers v_18.toNatClampNeg).toInt64) hx hb dX7_turns_282 rfl ?_
              refine W.lcmp hx hb dX7_turns_283 ?_
              refine lv_if_ne (tgt := 320) hx hb dX7_turns_284 (by decide) (fun c0 => ?_) (fun c0 => ?_)
              · have c0 := (not_congr (lg_cmp_eq _ _)).mp c0
                have hF := if_f hF c0
                exact hk320 H locs ls hP hD hS (lv_sub hl [0, 2, 3, 4, 5, 6, 7, 8, 9, 10, 11] rfl) hF
              · have c0 := (lg_cmp_eq _ _).mp c0
                have hF := if_t hF c0
                refine lv_aload_n hx hb dX7_turns_287 rfl (lv_at hl 0 rfl) ?_
                refine lv_iload hx hb dX7_turns_288 (lv_at hl 9 rfl) ?_
                refine lv_i2l (v := p8.toInt64) hx hb dX7_turns_290 rfl ?_
                refine lv_iload hx hb dX7_turns_291 (lv_at hl 10 rfl) ?_
                refine lv_i2l (v := p9.toInt64) hx hb dX7_turns_293 rfl ?_
                refine lv_iload hx hb dX7_turns_294 (lv_at hl 11 rfl) ?_
                refine lv_i2l (v := p10.toInt64) hx hb dX7_turns_296 rfl ?_
                obtain ⟨r_19, hc, hF⟩ := bd1_of hF
                refine rc_l (va_runV (As := [.long p8.toInt64, .long p9.toInt64, .long p10.toInt64]) (rest := []) ⟨hx, hb, hml, hown, hts⟩ (c_X7_valueOf l dC dI cI cJ h a forms prime turns lineT lineU kinds upper lower numbers q_14 base least table rows lists listSize tried other line makers touches made kindForm kindTurns kindWays p8.toInt64 p9.toInt64 p10.toInt64 r_19 hc) (cwV 3 hts g_X7_turns_X7_valueOf rfl rfl rfl (by decide +kernel) ⟨Nat.le_of_ble_eq_true rfl, Nat.le_of_ble_eq_true rfl⟩) ⟨rPc_blind, va_recv hK hP (ci := 5) (q0 := 0) rfl rfl, rPc_at hK hP⟩ rfl rfl hl.1 rfl (lv_room (Nat.le_of_ble_eq_true rfl)) dX7_turns_297 ⟨Nat.zero_le _, Nat.zero_le _⟩) ?_
                refine lv_aload_n hx hb dX7_turns_300 rfl (lv_at hl 0 rfl) ?_
                refine va_get (D := (dC, dI)) (ci := 5) (v := .ref (a 1)) (C := RX7) (T := TX7) (N := 25) hx hb hts hinX7 hown hK hP 0 rfl rfl 1 (by decide) hf_7 (fun _ h9 => h9) rfl dX7_turns_301 ?_
                refine lv_bipush (v := (6)) hx hb dX7_turns_304 (by decide) ?_
                refine lv_iload_n hx hb dX7_turns_306 rfl (lv_at hl 2 rfl) ?_
                refine lv_imul hx hb dX7_turns_307 ?_
                refine lv_iconst (v := 2) hx hb dX7_turns_308 (by decide) ?_
                refine lv_iadd hx hb dX7_turns_309 ?_
                refine lv_topi (fun v_20 e_v_20 => ?_)
                have hF := nm_at hF e_v_20
                obtain ⟨hi, hF⟩ := ck_of hF
                refine va_iald hx hb hK hP 1 0 rfl rfl hi dX7_turns_310 ?_
                refine lv_i2l (v := (numbers v_20.toNatClampNeg).toInt64) hx hb dX7_turns_311 rfl ?_
                refine W.lcmp hx hb dX7_turns_312 ?_
                refine lv_if_ne (tgt := 320) hx hb dX7_turns_313 (by decide) (fun c0 => ?_) (fun c0 => ?_)
                · have c0 := (not_congr (lg_cmp_eq _ _)).mp c0
                  have hF := if_f hF c0
                  exact hk320 H locs ls hP hD hS (lv_sub hl [0, 2, 3, 4, 5, 6, 7, 8, 9, 10, 11] rfl) hF
                · have c0 := (lg_cmp_eq _ _).mp c0
                  have hF := if_t hF c0
                  refine lv_iconst (v := 1) hx hb dX7_turns_316 (by decide) ?_
                  refine lv_goto (tgt := 321) hx hb dX7_turns_317 (by decide) ?_
                  exact hk321 (1 : Int32) H locs ls hP hD hS (lv_sub hl [0, 2, 3, 4, 5, 6, 7, 8, 9, 10, 11] rfl) hF
          clear e_k227
          refine lv_icmp_eq (tgt := 227) hx hb dX7_turns_216 (by decide) (fun c0 => ?_) (fun c0 => ?_)
          · have hF := if_t hF c0
            exact hk227 H locs ls hP hD hS (lv_sub hl [2, 3, 4, 5, 6, 7, 8, 9, 10, 11, 12, 13] rfl) hF
          · have hF := if_f hF c0
            refine lv_iload hx hb dX7_turns_219 (lv_at hl 0 rfl) ?_
            refine lv_iconst (v := (-1)) hx hb dX7_turns_221 (by decide) ?_
            refine lv_icmp_eq (tgt := 227) hx hb dX7_turns_222 (by decide) (fun c0 => ?_) (fun c0 => ?_)
            · have hF := if_t hF c0
              exact hk227 H locs ls hP hD hS (lv_sub hl [2, 3, 4, 5, 6, 7, 8, 9, 10, 11, 12, 13] rfl) hF
            · have hF := if_f hF c0
              refine lv_iconst (v := 0) hx hb dX7_turns_225 (by decide) ?_
              obtain ⟨q0, q1⟩ := sm2 hF
              have hP : va_P (dC, dI) vwCl (mW cI cJ h a forms prime turns lineT lineU kinds upper lower numbers o_q base least table rows lists listSize tried other line makers touches made kindForm kindTurns kindWays) H := by rw [← q1]; exact hP
              have hD : va_D A (mW cI cJ h a forms prime turns lineT lineU kinds upper lower numbers o_q base least table rows lists listSize tried other line makers touches made kindForm kindTurns kindWays) := by rw [← q1]; exact hD
              refine W_Qe hQ ?_
              exact W.iret hx hb hr (fun t ht hW => ⟨⟨(0 : Int32), (), rfl, q0, by rw [ht]; exact hP, va_K.moved hW.alike hK, hD⟩, hS.F ht⟩) hS.2.2 dX7_turns_226
        · have hF := if_t hF c0
          refine lv_ldc (v := (-100002)) hx hb hown (hlk (.constant RX7 157 (-100002)) (by decide +kernel)) dX7_turns_165 ?_
          obtain ⟨q0, q1⟩ := sm2 hF
          have hP : va_P (dC, dI) vwCl (mW cI cJ h a forms prime turns lineT lineU kinds upper lower numbers o_q base least table rows lists listSize tried other line makers touches made kindForm kindTurns kindWays) H := by rw [← q1]; exact hP
          have hD : va_D A (mW cI cJ h a forms prime turns lineT lineU kinds upper lower numbers o_q base least table rows lists listSize tried other line makers touches made kindForm kindTurns kindWays) := by rw [← q1]; exact hD
          refine W_Qe hQ ?_
          exact W.iret hx hb hr (fun t ht hW => ⟨⟨(-100002 : Int32), (), rfl, q0, by rw [ht]; exact hP, va_K.moved hW.alike hK, hD⟩, hS.F ht⟩) hS.2.2 dX7_turns_167
      clear e_k158
      obtain ⟨k157, e_k157, hF⟩ := nm_ex hF
      have hk157 : ∀  (H : Heap) (locs : List Loc) (ls : Array Slot), va_P (dC, dI) vwCl (mW cI cJ h a forms prime turns lineT lineU kinds upper lower numbers q base least table rows lists listSize tried other line makers touches made kindForm kindTurns kindWays) H → va_D A (mW cI cJ h a forms prime turns lineT lineU kinds upper lower numbers q base least table rows lists listSize tried other line makers touches made kindForm kindTurns kindWays) → va_S A s.heap H locs → lv_has ls 15 [(0, .ref h), (1, .int p0), (2, .int p1), (3, .int p2), (4, .int p3), (5, .int p4), (6, .int p5), (7, .int p6), (8, .int p7), (9, .int p8), (10, .int p9), (11, .int p10)] → k157 = some (ro, o_q) → W p l e rmX7_turns s m ([.ref h, .int p0, .int p1, .int p2, .int p3, .int p4, .int p5, .int p6, .int p7, .int p8, .int p9, .int p10] : List Value).toArray below meth c H locs 0 0 Q (F0 m 157 ls []) := by
        intro H locs ls hP hD hS hl hF
        have hF := ka0 e_k157 hF
        refine lv_iconst (v := 0) hx hb dX7_turns_157 (by decide) ?_
        exact hk158 (0 : Int32) H locs ls hP hD hS (lv_sub hl [0, 1, 2, 3, 4, 5, 6, 7, 8, 9, 10, 11] rfl) hF
      clear e_k157
      refine lv_if_eq (tgt := 157) hx hb dX7_turns_30 (by decide) (fun c0 => ?_) (fun c0 => ?_)
      · have hF := if_t hF c0
        exact hk157 H locs ls hP hD hS (lv_sub hl [0, 1, 2, 3, 4, 5, 6, 7, 8, 9, 10, 11] rfl) hF
      · have hF := if_f hF c0
        refine lv_iload hx hb dX7_turns_33 (lv_at hl 4 rfl) ?_
        refine lv_i2l (v := p3.toInt64) hx hb dX7_turns_35 rfl ?_
        refine lv_ldc2 (v := (-20)) hx hb hown (hlk (.constantLong RX7 189 (-20)) (by decide +kernel)) dX7_turns_36 ?_
        refine lv_ldc2 (v := (20)) hx hb hown (hlk (.constantLong RX7 191 (20)) (by decide +kernel)) dX7_turns_39 ?_
        obtain ⟨r_4, hc, hF⟩ := bd1_of hF
        refine rc_i (va_runS (As := [.long p3.toInt64, .long (-20 : Int64), .long (20 : Int64)]) (rest := []) ⟨hx, hb, hml, hown, hts⟩ (c_X7_in l p3.toInt64 (-20 : Int64) (20 : Int64) r_4 hc) (va_cwS 3 hts g_X7_turns_X7_in rfl rfl rfl (by decide +kernel) ⟨Nat.le_of_ble_eq_true rfl, Nat.le_of_ble_eq_true rfl⟩) ⟨tPc_blind, tPc_at⟩ rfl rfl hl.1 rfl (lv_room (Nat.le_of_ble_eq_true rfl)) dX7_turns_42 ⟨Nat.zero_le _, Nat.zero_le _⟩) ?_
        refine lv_if_eq (tgt := 157) hx hb dX7_turns_45 (by decide) (fun c0 => ?_) (fun c0 => ?_)
        · have hF := if_t hF c0
          exact hk157 H locs ls hP hD hS (lv_sub hl [0, 1, 2, 3, 4, 5, 6, 7, 8, 9, 10, 11] rfl) hF
        · have hF := if_f hF c0
          refine lv_iload hx hb dX7_turns_48 (lv_at hl 5 rfl) ?_
          refine lv_i2l (v := p4.toInt64) hx hb dX7_turns_50 rfl ?_
          refine lv_ldc2 (v := (-20)) hx hb hown (hlk (.constantLong RX7 189 (-20)) (by decide +kernel)) dX7_turns_51 ?_
          refine lv_ldc2 (v := (20)) hx hb hown (hlk (.constantLong RX7 191 (20)) (by decide +kernel)) dX7_turns_54 ?_
          obtain ⟨r_5, hc, hF⟩ := bd1_of hF
          refine rc_i (va_runS (As := [.long p4.toInt64, .long (-20 : Int64), .long (20 : Int64)]) (rest := []) ⟨hx, hb, hml, hown, hts⟩ (c_X7_in l p4.toInt64 (-20 : Int64) (20 : Int64) r_5 hc) (va_cwS 3 hts g_X7_turns_X7_in rfl rfl rfl (by decide +kernel) ⟨Nat.le_of_ble_eq_true rfl, Nat.le_of_ble_eq_true rfl⟩) ⟨tPc_blind, tPc_at⟩ rfl rfl hl.1 rfl (lv_room (Nat.le_of_ble_eq_true rfl)) dX7_turns_57 ⟨Nat.zero_le _, Nat.zero_le _⟩) ?_
          refine lv_if_eq (tgt := 157) hx hb dX7_turns_60 (by decide) (fun c0 => ?_) (fun c0 => ?_)
          · have hF := if_t hF c0
            exact hk157 H locs ls hP hD hS (lv_sub hl [0, 1, 2, 3, 4, 5, 6, 7, 8, 9, 10, 11] rfl) hF
          · have hF := if_f hF c0
            refine lv_iload hx hb dX7_turns_63 (lv_at hl 6 rfl) ?_
            refine lv_i2l (v := p5.toInt64) hx hb dX7_turns_65 rfl ?_
            refine lv_ldc2 (v := (-20)) hx hb hown (hlk (.constantLong RX7 189 (-20)) (by decide +kernel)) dX7_turns_66 ?_
            refine lv_ldc2 (v := (20)) hx hb hown (hlk (.constantLong RX7 191 (20)) (by decide +kernel)) dX7_turns_69 ?_
            obtain ⟨r_6, hc, hF⟩ := bd1_of hF
            refine rc_i (va_runS (As := [.long p5.toInt64, .long (-20 : Int64), .long (20 : Int64)]) (rest := []) ⟨hx, hb, hml, hown, hts⟩ (c_X7_in l p5.toInt64 (-20 : Int64) (20 : Int64) r_6 hc) (va_cwS 3 hts g_X7_turns_X7_in rfl rfl rfl (by decide +kernel) ⟨Nat.le_of_ble_eq_true rfl, Nat.le_of_ble_eq_true rfl⟩) ⟨tPc_blind, tPc_at⟩ rfl rfl hl.1 rfl (lv_room (Nat.le_of_ble_eq_true rfl)) dX7_turns_72 ⟨Nat.zero_le _, Nat.zero_le _⟩) ?_
            refine lv_if_eq (tgt := 157) hx hb dX7_turns_75 (by decide) (fun c0 => ?_) (fun c0 => ?_)
            · have hF := if_t hF c0
              exact hk157 H locs ls hP hD hS (lv_sub hl [0, 1, 2, 3, 4, 5, 6, 7, 8, 9, 10, 11] rfl) hF
            · have hF := if_f hF c0
              refine lv_iload hx hb dX7_turns_78 (lv_at hl 7 rfl) ?_
              refine lv_i2l (v := p6.toInt64) hx hb dX7_turns_80 rfl ?_
              refine lv_ldc2 (v := (-20)) hx hb hown (hlk (.constantLong RX7 189 (-20)) (by decide +kernel)) dX7_turns_81 ?_
              refine lv_ldc2 (v := (20)) hx hb hown (hlk (.constantLong RX7 191 (20)) (by decide +kernel)) dX7_turns_84 ?_
              obtain ⟨r_7, hc, hF⟩ := bd1_of hF
              refine rc_i (va_runS (As := [.long p6.toInt64, .long (-20 : Int64), .long (20 : Int64)]) (rest := []) ⟨hx, hb, hml, hown, hts⟩ (c_X7_in l p6.toInt64 (-20 : Int64) (20 : Int64) r_7 hc) (va_cwS 3 hts g_X7_turns_X7_in rfl rfl rfl (by decide +kernel) ⟨Nat.le_of_ble_eq_true rfl, Nat.le_of_ble_eq_true rfl⟩) ⟨tPc_blind, tPc_at⟩ rfl rfl hl.1 rfl (lv_room (Nat.le_of_ble_eq_true rfl)) dX7_turns_87 ⟨Nat.zero_le _, Nat.zero_le _⟩) ?_
              refine lv_if_eq (tgt := 157) hx hb dX7_turns_90 (by decide) (fun c0 => ?_) (fun c0 => ?_)
              · have hF := if_t hF c0
                exact hk157 H locs ls hP hD hS (lv_sub hl [0, 1, 2, 3, 4, 5, 6, 7, 8, 9, 10, 11] rfl) hF
              · have hF := if_f hF c0
                refine lv_iload hx hb dX7_turns_93 (lv_at hl 8 rfl) ?_
                refine lv_i2l (v := p7.toInt64) hx hb dX7_turns_95 rfl ?_
                refine lv_ldc2 (v := (-20)) hx hb hown (hlk (.constantLong RX7 189 (-20)) (by decide +kernel)) dX7_turns_96 ?_
                refine lv_ldc2 (v := (20)) hx hb hown (hlk (.constantLong RX7 191 (20)) (by decide +kernel)) dX7_turns_99 ?_
                obtain ⟨r_8, hc, hF⟩ := bd1_of hF
                refine rc_i (va_runS (As := [.long p7.toInt64, .long (-20 : Int64), .long (20 : Int64)]) (rest := []) ⟨hx, hb, hml, hown, hts⟩ (c_X7_in l p7.toInt64 (-20 : Int64) (20 : Int64) r_8 hc) (va_cwS 3 hts g_X7_turns_X7_in rfl rfl rfl (by decide +kernel) ⟨Nat.le_of_ble_eq_true rfl, Nat.le_of_ble_eq_true rfl⟩) ⟨tPc_blind, tPc_at⟩ rfl rfl hl.1 rfl (lv_room (Nat.le_of_ble_eq_true rfl)) dX7_turns_102 ⟨Nat.zero_le _, Nat.zero_le _⟩) ?_
                refine lv_if_eq (tgt := 157) hx hb dX7_turns_105 (by decide) (fun c0 => ?_) (fun c0 => ?_)
                · have hF := if_t hF c0
                  exact hk157 H locs ls hP hD hS (lv_sub hl [0, 1, 2, 3, 4, 5, 6, 7, 8, 9, 10, 11] rfl) hF
                · have hF := if_f hF c0
                  refine lv_iload hx hb dX7_turns_108 (lv_at hl 9 rfl) ?_
                  refine lv_i2l (v := p8.toInt64) hx hb dX7_turns_110 rfl ?_
                  refine lv_ldc2 (v := (-20)) hx hb hown (hlk (.constantLong RX7 189 (-20)) (by decide +kernel)) dX7_turns_111 ?_
                  refine lv_ldc2 (v := (20)) hx hb hown (hlk (.constantLong RX7 191 (20)) (by decide +kernel)) dX7_turns_114 ?_
                  obtain ⟨r_9, hc, hF⟩ := bd1_of hF
                  refine rc_i (va_runS (As := [.long p8.toInt64, .long (-20 : Int64), .long (20 : Int64)]) (rest := []) ⟨hx, hb, hml, hown, hts⟩ (c_X7_in l p8.toInt64 (-20 : Int64) (20 : Int64) r_9 hc) (va_cwS 3 hts g_X7_turns_X7_in rfl rfl rfl (by decide +kernel) ⟨Nat.le_of_ble_eq_true rfl, Nat.le_of_ble_eq_true rfl⟩) ⟨tPc_blind, tPc_at⟩ rfl rfl hl.1 rfl (lv_room (Nat.le_of_ble_eq_true rfl)) dX7_turns_117 ⟨Nat.zero_le _, Nat.zero_le _⟩) ?_
                  refine lv_if_eq (tgt := 157) hx hb dX7_turns_120 (by decide) (fun c0 => ?_) (fun c0 => ?_)
                  · have hF := if_t hF c0
                    exact hk157 H locs ls hP hD hS (lv_sub hl [0, 1, 2, 3, 4, 5, 6, 7, 8, 9, 10, 11] rfl) hF
                  · have hF := if_f hF c0
                    refine lv_iload hx hb dX7_turns_123 (lv_at hl 10 rfl) ?_
                    refine lv_i2l (v := p9.toInt64) hx hb dX7_turns_125 rfl ?_
                    refine lv_ldc2 (v := (-20)) hx hb hown (hlk (.constantLong RX7 189 (-20)) (by decide +kernel)) dX7_turns_126 ?_
                    refine lv_ldc2 (v := (20)) hx hb hown (hlk (.constantLong RX7 191 (20)) (by decide +kernel)) dX7_turns_129 ?_
                    obtain ⟨r_10, hc, hF⟩ := bd1_of hF
                    refine rc_i (va_runS (As := [.long p9.toInt64, .long (-20 : Int64), .long (20 : Int64)]) (rest := []) ⟨hx, hb, hml, hown, hts⟩ (c_X7_in l p9.toInt64 (-20 : Int64) (20 : Int64) r_10 hc) (va_cwS 3 hts g_X7_turns_X7_in rfl rfl rfl (by decide +kernel) ⟨Nat.le_of_ble_eq_true rfl, Nat.le_of_ble_eq_true rfl⟩) ⟨tPc_blind, tPc_at⟩ rfl rfl hl.1 rfl (lv_room (Nat.le_of_ble_eq_true rfl)) dX7_turns_132 ⟨Nat.zero_le _, Nat.zero_le _⟩) ?_
                    refine lv_if_eq (tgt := 157) hx hb dX7_turns_135 (by decide) (fun c0 => ?_) (fun c0 => ?_)
                    · have hF := if_t hF c0
                      exact hk157 H locs ls hP hD hS (lv_sub hl [0, 1, 2, 3, 4, 5, 6, 7, 8, 9, 10, 11] rfl) hF
                    · have hF := if_f hF c0
                      refine lv_iload hx hb dX7_turns_138 (lv_at hl 11 rfl) ?_
                      refine lv_i2l (v := p10.toInt64) hx hb dX7_turns_140 rfl ?_
                      refine lv_ldc2 (v := (-20)) hx hb hown (hlk (.constantLong RX7 189 (-20)) (by decide +kernel)) dX7_turns_141 ?_
                      refine lv_ldc2 (v := (20)) hx hb hown (hlk (.constantLong RX7 191 (20)) (by decide +kernel)) dX7_turns_144 ?_
                      obtain ⟨r_11, hc, hF⟩ := bd1_of hF
                      refine rc_i (va_runS (As := [.long p10.toInt64, .long (-20 : Int64), .long (20 : Int64)]) (rest := []) ⟨hx, hb, hml, hown, hts⟩ (c_X7_in l p10.toInt64 (-20 : Int64) (20 : Int64) r_11 hc) (va_cwS 3 hts g_X7_turns_X7_in rfl rfl rfl (by decide +kernel) ⟨Nat.le_of_ble_eq_true rfl, Nat.le_of_ble_eq_true rfl⟩) ⟨tPc_blind, tPc_at⟩ rfl rfl hl.1 rfl (lv_room (Nat.le_of_ble_eq_true rfl)) dX7_turns_147 ⟨Nat.zero_le _, Nat.zero_le _⟩) ?_
                      refine lv_if_eq (tgt := 157) hx hb dX7_turns_150 (by decide) (fun c0 => ?_) (fun c0 => ?_)
                      · have hF := if_t hF c0
                        exact hk157 H locs ls hP hD hS (lv_sub hl [0, 1, 2, 3, 4, 5, 6, 7, 8, 9, 10, 11] rfl) hF
                      · have hF := if_f hF c0
                        refine lv_iconst (v := 1) hx hb dX7_turns_153 (by decide) ?_
                        refine lv_goto (tgt := 158) hx hb dX7_turns_154 (by decide) ?_
                        exact hk158 (1 : Int32) H locs ls hP hD hS (lv_sub hl [0, 1, 2, 3, 4, 5, 6, 7, 8, 9, 10, 11] rfl) hF
    · have hF := if_t hF c0
      exact hk16 H locs ls hP hD hS (lv_sub hl [] rfl) hF
def fX7_count (forms : Int32)  : Option (Int32) :=
  some forms
def lkX7_count : List Cond := [.fieldLink RX7 158 "KinFormsModel" "forms" "I"]
def vX7_count : List Cond := .code yX7_count cX7_count 1 (some .int) :: (lkX7_count ++ (wsX70 ++ ([])))
theorem q_X7_count : ∀ w ∈ vX7_count, goodWord w = true := gd_cons rfl (gd_app (by decide +kernel) (gd_app q_wsX70 gd_nil))
abbrev rmX7_count : Room := { frames := 0, cells := 0, slots := 0, locals := 0 }
set_option maxHeartbeats 4000000 in
set_option maxRecDepth 100000 in
theorem c_X7_count (l : Launch) (dC : Nat → ClassId) (dI : Nat → Nat → Nat) (cI : ClassId) (cJ : ClassId) (h : Nat) (a : Nat → Nat) (forms : Int32) (prime : Int32) (turns : Int32) (lineT : Int32) (lineU : Int32) (kinds : Int32) (upper : Int64) (lower : Int64) (numbers : Nat → Int32) (q : Nat → Int64) (base : Nat → Int64) (least : Nat → Int64) (table : Nat → Int64) (rows : Nat → Int64) (lists : Nat → Int64) (listSize : Nat → Int32) (tried : Nat → Int64) (other : Nat → Int64) (line : Nat → Int64) (makers : Nat → Int64) (touches : Nat → Int64) (made : Nat → Int64) (kindForm : Nat → Int64) (kindTurns : Nat → Int32) (kindWays : Nat → Int32)  (ro : Int32) (hF : fX7_count forms = some ro) : Met l yX7_count vX7_count rmX7_count (va_Pc [.ref h] (rPc (dC, dI) vwCl (mW cI cJ h a forms prime turns lineT lineU kinds upper lower numbers q base least table rows lists listSize tried other line makers touches made kindForm kindTurns kindWays) [(cI, .int), (cJ, .long)])) (vp_Si (fun x => x = ro)) 0 0 (fun _ => False) := by
  refine Met.ofW (cc := cX7_count) (maxL := 1) (ret := (some .int)) (by decide) rfl ?_
  intro p e s m args below meth c s₁ B hml hv
  obtain ⟨rfl, hP, hK⟩ := hv
  have hx := B.exec
  have hb := B.bytes
  have hr := B.returns
  have hts := atoms_spec (ws := vX7_count) B.pre
  have hlk : ∀ w ∈ lkX7_count, w.before _ s = true := fun w h => hts w (List.mem_cons_of_mem _ (List.mem_append_left _ h))
  have hown : s.vm.findClass RX7 = some m.cls := findClass_of_methodNamed B.named
  have hlocks := B.notSynchronized
  have hinX7 : ∀ w ∈ wsX70, w ∈ vX7_count := fun w h => List.mem_cons_of_mem _ (List.mem_append_right _ (List.mem_append_left _ h))
  have hf_158 := hlk (.fieldLink RX7 158 "KinFormsModel" "forms" "I") (by decide +kernel)
  have hl := lv_entry ([.ref h] : List Value) (n := 1) (Nat.le_of_ble_eq_true rfl)
  rw [lg_entry_eq]
  generalize (lg_sl ([.ref h] : List Value) ++ List.replicate (1 - (lg_sl ([.ref h] : List Value)).length) Slot.unset).toArray = ls at hl ⊢
  have hl : lv_has ls 1 [(0, .ref h)] := hl
  unfold fX7_count at hF
  refine W_Q (fun Q hQ => ?_)
  refine lv_aload_n hx hb dX7_count_0 rfl (lv_at hl 0 rfl) ?_
  refine va_get (D := (dC, dI)) (ci := 5) (v := .int forms) (C := RX7) (T := TX7) (N := 25) hx hb hts hinX7 hown hK hP 0 rfl rfl 0 (by decide) hf_158 (fun _ h9 => h9) rfl dX7_count_1 ?_
  have q0 := sm1 hF
  refine W_Qe hQ ?_
  exact W.iret hx hb hr (fun t ht hW => ⟨_, rfl, q0, ht⟩) (fun _ h9 => by cases h9) dX7_count_4
def fX7_prime (prime : Int32) (p0 : Int32) : Option (Int32 × (Int32)) :=
  nm (some (prime, p0)) (fun (k19 : Option (Int32 × (Int32))) => if p0 = (3 : Int32) then ((k19)) else (if p0 = (5 : Int32) then ((k19)) else (if p0 = (7 : Int32) then ((k19)) else (some ((-100002 : Int32), prime)))))
def lkX7_prime : List Cond := [.constant RX7 157 (-100002), .fieldLink RX7 13 "KinFormsModel" "prime" "I"]
def vX7_prime : List Cond := .code yX7_prime cX7_prime 3 (some .int) :: (lkX7_prime ++ (wsX70 ++ ([])))
theorem q_X7_prime : ∀ w ∈ vX7_prime, goodWord w = true := gd_cons rfl (gd_app (by decide +kernel) (gd_app q_wsX70 gd_nil))
abbrev rmX7_prime : Room := { frames := 0, cells := 0, slots := 0, locals := 0 }
set_option maxHeartbeats 4000000 in
set_option maxRecDepth 100000 in
theorem c_X7_prime (l : Launch) (dC : Nat → ClassId) (dI : Nat → Nat → Nat) (cI : ClassId) (cJ : ClassId) (h : Nat) (a : Nat → Nat) (sz : Nat) (forms : Int32) (prime : Int32) (turns : Int32) (lineT : Int32) (lineU : Int32) (kinds : Int32) (upper : Int64) (lower : Int64) (numbers : Nat → Int32) (q : Nat → Int64) (base : Nat → Int64) (least : Nat → Int64) (table : Nat → Int64) (rows : Nat → Int64) (lists : Nat → Int64) (listSize : Nat → Int32) (tried : Nat → Int64) (other : Nat → Int64) (line : Nat → Int64) (makers : Nat → Int64) (touches : Nat → Int64) (made : Nat → Int64) (kindForm : Nat → Int64) (kindTurns : Nat → Int32) (kindWays : Nat → Int32) (p0 : Int32) (ro : Int32) (o_prime : Int32) (hF : fX7_prime prime p0 = some (ro, o_prime)) : Met l yX7_prime vX7_prime rmX7_prime (va_Pc [.ref h, .int p0] (mPc (dC, dI) vwCl (mW cI cJ h a forms prime turns lineT lineU kinds upper lower numbers q base least table rows lists listSize tried other line makers touches made kindForm kindTurns kindWays) [(cI, .int), (cJ, .long)] sz)) (va_Qi (fun x (_ : Unit) => x = ro) (mPo (dC, dI) vwCl (mW cI cJ h a forms o_prime turns lineT lineU kinds upper lower numbers q base least table rows lists listSize tried other line makers touches made kindForm kindTurns kindWays) [(cI, .int), (cJ, .long)] (va_A (mW cI cJ h a forms prime turns lineT lineU kinds upper lower numbers q base least table rows lists listSize tried other line makers touches made kindForm kindTurns kindWays) sz)) (va_A (mW cI cJ h a forms prime turns lineT lineU kinds upper lower numbers q base least table rows lists listSize tried other line makers touches made kindForm kindTurns kindWays) sz)) 0 0 (va_A (mW cI cJ h a forms prime turns lineT lineU kinds upper lower numbers q base least table rows lists listSize tried other line makers touches made kindForm kindTurns kindWays) sz) := by
  refine Met.ofW (cc := cX7_prime) (maxL := 3) (ret := (some .int)) (by decide) rfl ?_
  intro p e s m args below meth c s₁ B hml hv
  obtain ⟨rfl, hsz, hP, hK, hD0⟩ := hv
  have hx := B.exec
  have hb := B.bytes
  have hr := B.returns
  have hts := atoms_spec (ws := vX7_prime) B.pre
  have hlk : ∀ w ∈ lkX7_prime, w.before _ s = true := fun w h => hts w (List.mem_cons_of_mem _ (List.mem_append_left _ h))
  have hown : s.vm.findClass RX7 = some m.cls := findClass_of_methodNamed B.named
  have hlocks := B.notSynchronized
  subst hsz
  have hD := hD0.self (sz := s.heap.size)
  generalize hAe : va_A (mW cI cJ h a forms prime turns lineT lineU kinds upper lower numbers q base least table rows lists listSize tried other line makers touches made kindForm kindTurns kindWays) s.heap.size = A at hD ⊢
  have hA : ∀ q : Nat, s.heap.size ≤ q → A q := fun q h => by rw [← hAe]; exact Or.inr h
  have hS : va_S A s.heap s.heap [] := va_S.rf
  have hinX7 : ∀ w ∈ wsX70, w ∈ vX7_prime := fun w h => List.mem_cons_of_mem _ (List.mem_append_right _ (List.mem_append_left _ h))
  have hf_13 := hlk (.fieldLink RX7 13 "KinFormsModel" "prime" "I") (by decide +kernel)
  have hl := lv_entry ([.ref h, .int p0] : List Value) (n := 3) (Nat.le_of_ble_eq_true rfl)
  rw [lg_entry_eq]
  generalize (lg_sl ([.ref h, .int p0] : List Value) ++ List.replicate (3 - (lg_sl ([.ref h, .int p0] : List Value)).length) Slot.unset).toArray = ls at hl ⊢
  have hl : lv_has ls 3 [(0, .ref h), (1, .int p0)] := hl
  unfold fX7_prime at hF
  refine W_Q (fun Q hQ => ?_)
  have hP : va_P (dC, dI) vwCl (mW cI cJ h a forms prime turns lineT lineU kinds upper lower numbers q base least table rows lists listSize tried other line makers touches made kindForm kindTurns kindWays) s.heap := hP
  refine W_HL (fun H locs eH eL => ?_)
  rw [← eH] at hP
  have hS : va_S A s.heap H locs := by rw [eH, eL]; exact hS
  refine lv_iload_n hx hb dX7_prime_0 rfl (lv_at hl 1 rfl) ?_
  refine lv_iconst (v := 3) hx hb dX7_prime_1 (by decide) ?_
  obtain ⟨k19, e_k19, hF⟩ := nm_ex hF
  have hk19 : ∀  (H : Heap) (locs : List Loc) (ls : Array Slot), va_P (dC, dI) vwCl (mW cI cJ h a forms prime turns lineT lineU kinds upper lower numbers q base least table rows lists listSize tried other line makers touches made kindForm kindTurns kindWays) H → va_D A (mW cI cJ h a forms prime turns lineT lineU kinds upper lower numbers q base least table rows lists listSize tried other line makers touches made kindForm kindTurns kindWays) → va_S A s.heap H locs → lv_has ls 3 [(0, .ref h), (1, .int p0)] → k19 = some (ro, o_prime) → W p l e rmX7_prime s m ([.ref h, .int p0] : List Value).toArray below meth c H locs 0 0 Q (F0 m 19 ls []) := by
    intro H locs ls hP hD hS hl hF
    have hF := ka0 e_k19 hF
    refine lv_aload_n hx hb dX7_prime_19 rfl (lv_at hl 0 rfl) ?_
    refine va_get (D := (dC, dI)) (ci := 5) (v := .int prime) (C := RX7) (T := TX7) (N := 25) hx hb hts hinX7 hown hK hP 0 rfl rfl 2 (by decide) hf_13 (fun _ h9 => h9) rfl dX7_prime_20 ?_
    refine lv_istore_n (lv' := [(2, .int prime), (0, .ref h), (1, .int p0)]) hx hb dX7_prime_23 rfl hl (by decide) rfl (fun ls hl => ?_)
    refine lv_aload_n hx hb dX7_prime_24 rfl (lv_at hl 1 rfl) ?_
    refine lv_iload_n hx hb dX7_prime_25 rfl (lv_at hl 2 rfl) ?_
    refine va_put (D := (dC, dI)) (ci := 5) (v := .int p0) (ty := .int) (C := RX7) (T := TX7) (N := 25) hx hb hts hinX7 tyX7 tyX7_ok nmX7 hown hK hP hD hS 0 rfl rfl 2 (by decide) hf_13 (fun _ h9 => h9) rfl (by decide +kernel) rfl rfl (Nat.le_of_ble_eq_true rfl) dX7_prime_26 (fun H locs hP hD hS => ?_)
    have hP : va_P (dC, dI) vwCl (mW cI cJ h a forms p0 turns lineT lineU kinds upper lower numbers q base least table rows lists listSize tried other line makers touches made kindForm kindTurns kindWays) H := hP
    have hD : va_D A (mW cI cJ h a forms p0 turns lineT lineU kinds upper lower numbers q base least table rows lists listSize tried other line makers touches made kindForm kindTurns kindWays) := hD
    refine lv_iload_n hx hb dX7_prime_29 rfl (lv_at hl 0 rfl) ?_
    obtain ⟨q0, q1⟩ := sm2 hF
    have hP : va_P (dC, dI) vwCl (mW cI cJ h a forms o_prime turns lineT lineU kinds upper lower numbers q base least table rows lists listSize tried other line makers touches made kindForm kindTurns kindWays) H := by rw [← q1]; exact hP
    have hD : va_D A (mW cI cJ h a forms o_prime turns lineT lineU kinds upper lower numbers q base least table rows lists listSize tried other line makers touches made kindForm kindTurns kindWays) := by rw [← q1]; exact hD
    refine W_Qe hQ ?_
    exact W.iret hx hb hr (fun t ht hW => ⟨⟨prime, (), rfl, q0, by rw [ht]; exact hP, va_K.moved hW.alike hK, hD⟩, hS.F ht⟩) hS.2.2 dX7_prime_30
  clear e_k19
  refine lv_icmp_eq (tgt := 19) hx hb dX7_prime_2 (by decide) (fun c0 => ?_) (fun c0 => ?_)
  · have hF := if_t hF c0
    exact hk19 H locs ls hP hD hS (lv_sub hl [0, 1] rfl) hF
  · have hF := if_f hF c0
    refine lv_iload_n hx hb dX7_prime_5 rfl (lv_at hl 1 rfl) ?_
    refine lv_iconst (v := 5) hx hb dX7_prime_6 (by decide) ?_
    refine lv_icmp_eq (tgt := 19) hx hb dX7_prime_7 (by decide) (fun c0 => ?_) (fun c0 => ?_)
    · have hF := if_t hF c0
      exact hk19 H locs ls hP hD hS (lv_sub hl [0, 1] rfl) hF
    · have hF := if_f hF c0
      refine lv_iload_n hx hb dX7_prime_10 rfl (lv_at hl 1 rfl) ?_
      refine lv_bipush (v := (7)) hx hb dX7_prime_11 (by decide) ?_
      refine lv_icmp_eq (tgt := 19) hx hb dX7_prime_13 (by decide) (fun c0 => ?_) (fun c0 => ?_)
      · have hF := if_t hF c0
        exact hk19 H locs ls hP hD hS (lv_sub hl [0, 1] rfl) hF
      · have hF := if_f hF c0
        refine lv_ldc (v := (-100002)) hx hb hown (hlk (.constant RX7 157 (-100002)) (by decide +kernel)) dX7_prime_16 ?_
        obtain ⟨q0, q1⟩ := sm2 hF
        have hP : va_P (dC, dI) vwCl (mW cI cJ h a forms o_prime turns lineT lineU kinds upper lower numbers q base least table rows lists listSize tried other line makers touches made kindForm kindTurns kindWays) H := by rw [← q1]; exact hP
        have hD : va_D A (mW cI cJ h a forms o_prime turns lineT lineU kinds upper lower numbers q base least table rows lists listSize tried other line makers touches made kindForm kindTurns kindWays) := by rw [← q1]; exact hD
        refine W_Qe hQ ?_
        exact W.iret hx hb hr (fun t ht hW => ⟨⟨(-100002 : Int32), (), rfl, q0, by rw [ht]; exact hP, va_K.moved hW.alike hK, hD⟩, hS.F ht⟩) hS.2.2 dX7_prime_18
def fX7_divides (prime : Int32) (q : Nat → Int64)  : Option (Int32) :=
  bd1 (fX7_disc q) (fun (r_1 : Int64) => nm (prime.toInt64) (fun (v_2 : Int64) => if ¬ v_2 = 0 then nm (fun (s_3 : Int32) => if s_3 = 0 ∨ s_3 = 1 then some s_3 else none) (fun (k20 : (Int32) → Option (Int32)) => if (r_1 - r_1 / v_2 * v_2) = (0 : Int64) then ((k20 (1 : Int32))) else ((k20 (0 : Int32)))) else none))
def lkX7_divides : List Cond := [.fieldLink RX7 13 "KinFormsModel" "prime" "I"]
def vX7_divides : List Cond := .code yX7_divides cX7_divides 1 (some .boolean) :: (lkX7_divides ++ (wsX70 ++ (wsV RX7 74 RX7 yX7_disc vX7_disc ++ ([]))))
theorem q_X7_divides : ∀ w ∈ vX7_divides, goodWord w = true := gd_cons rfl (gd_app (by decide +kernel) (gd_app q_wsX70 (gd_app (gd_V q_X7_disc) gd_nil)))
theorem g_X7_divides_X7_disc : GoodIn vX7_divides (wsV RX7 74 RX7 yX7_disc vX7_disc) := gi_of (fun w h => List.mem_cons_of_mem _ (List.mem_append_right _ (List.mem_append_right _ (List.mem_append_left _ h)))) (gd_V q_X7_disc)
abbrev rmX7_divides : Room := { frames := 1, cells := 0, slots := 0, locals := 20 }
set_option maxHeartbeats 4000000 in
set_option maxRecDepth 100000 in
theorem c_X7_divides (l : Launch) (dC : Nat → ClassId) (dI : Nat → Nat → Nat) (cI : ClassId) (cJ : ClassId) (h : Nat) (a : Nat → Nat) (forms : Int32) (prime : Int32) (turns : Int32) (lineT : Int32) (lineU : Int32) (kinds : Int32) (upper : Int64) (lower : Int64) (numbers : Nat → Int32) (q : Nat → Int64) (base : Nat → Int64) (least : Nat → Int64) (table : Nat → Int64) (rows : Nat → Int64) (lists : Nat → Int64) (listSize : Nat → Int32) (tried : Nat → Int64) (other : Nat → Int64) (line : Nat → Int64) (makers : Nat → Int64) (touches : Nat → Int64) (made : Nat → Int64) (kindForm : Nat → Int64) (kindTurns : Nat → Int32) (kindWays : Nat → Int32)  (ro : Int32) (hF : fX7_divides prime q = some ro) : Met l yX7_divides vX7_divides rmX7_divides (va_Pc [.ref h] (rPc (dC, dI) vwCl (mW cI cJ h a forms prime turns lineT lineU kinds upper lower numbers q base least table rows lists listSize tried other line makers touches made kindForm kindTurns kindWays) [(cI, .int), (cJ, .long)])) (vp_Si (fun x => x = ro)) 0 0 (fun _ => False) := by
  refine Met.ofW (cc := cX7_divides) (maxL := 1) (ret := (some .boolean)) (by decide) rfl ?_
  intro p e s m args below meth c s₁ B hml hv
  obtain ⟨rfl, hP, hK⟩ := hv
  have hx := B.exec
  have hb := B.bytes
  have hr := B.returns
  have hts := atoms_spec (ws := vX7_divides) B.pre
  have hlk : ∀ w ∈ lkX7_divides, w.before _ s = true := fun w h => hts w (List.mem_cons_of_mem _ (List.mem_append_left _ h))
  have hown : s.vm.findClass RX7 = some m.cls := findClass_of_methodNamed B.named
  have hlocks := B.notSynchronized
  have hinX7 : ∀ w ∈ wsX70, w ∈ vX7_divides := fun w h => List.mem_cons_of_mem _ (List.mem_append_right _ (List.mem_append_left _ h))
  have hf_13 := hlk (.fieldLink RX7 13 "KinFormsModel" "prime" "I") (by decide +kernel)
  have hl := lv_entry ([.ref h] : List Value) (n := 1) (Nat.le_of_ble_eq_true rfl)
  rw [lg_entry_eq]
  generalize (lg_sl ([.ref h] : List Value) ++ List.replicate (1 - (lg_sl ([.ref h] : List Value)).length) Slot.unset).toArray = ls at hl ⊢
  have hl : lv_has ls 1 [(0, .ref h)] := hl
  unfold fX7_divides at hF
  refine W_Q (fun Q hQ => ?_)
  refine lv_aload_n hx hb dX7_divides_0 rfl (lv_at hl 0 rfl) ?_
  obtain ⟨r_1, hc, hF⟩ := bd1_of hF
  refine rc_l (va_runV (As := []) (rest := []) ⟨hx, hb, hml, hown, hts⟩ (c_X7_disc l dC dI cI cJ h a forms prime turns lineT lineU kinds upper lower numbers q base least table rows lists listSize tried other line makers touches made kindForm kindTurns kindWays  r_1 hc) (cwV 0 hts g_X7_divides_X7_disc rfl rfl rfl (by decide +kernel) ⟨Nat.le_of_ble_eq_true rfl, Nat.le_of_ble_eq_true rfl⟩) ⟨rPc_blind, va_recv hK hP (ci := 5) (q0 := 0) rfl rfl, rPc_at hK hP⟩ rfl rfl hl.1 rfl (lv_room (Nat.le_of_ble_eq_true rfl)) dX7_divides_1 ⟨Nat.zero_le _, Nat.zero_le _⟩) ?_
  refine lv_aload_n hx hb dX7_divides_4 rfl (lv_at hl 0 rfl) ?_
  refine va_get (D := (dC, dI)) (ci := 5) (v := .int prime) (C := RX7) (T := TX7) (N := 25) hx hb hts hinX7 hown hK hP 0 rfl rfl 2 (by decide) hf_13 (fun _ h9 => h9) rfl dX7_divides_5 ?_
  refine lv_i2l (v := prime.toInt64) hx hb dX7_divides_8 rfl ?_
  refine lv_topl (fun v_2 e_v_2 => ?_)
  have hF := nm_at hF e_v_2
  obtain ⟨hz, hF⟩ := ck_of hF
  refine lv_lrem hx hb dX7_divides_9 hz ?_
  refine lv_lconst (v := 0) hx hb dX7_divides_10 (by decide) ?_
  refine W.lcmp hx hb dX7_divides_11 ?_
  obtain ⟨k20, e_k20, hF⟩ := nm_ex hF
  have hk20 : ∀ (s_3 : Int32) (ls : Array Slot), lv_has ls 1 [] → k20 s_3 = some ro → W p l e rmX7_divides s m ([.ref h] : List Value).toArray below meth c s.heap [] 0 0 Q (F0 m 20 ls [.int s_3]) := by
    intro s_3 ls hl hF
    have hF := ka1 e_k20 hF
    obtain ⟨hz, hF⟩ := ck_of hF
    have q0 := sm1 hF
    refine W_Qe hQ ?_
    exact W.zret (ty := .boolean) hx hb hr (nz_bool hz) (fun t ht hW => ⟨_, rfl, q0, ht⟩) (fun _ h9 => by cases h9) dX7_divides_20
  clear e_k20
  refine lv_if_ne (tgt := 19) hx hb dX7_divides_12 (by decide) (fun c0 => ?_) (fun c0 => ?_)
  · have c0 := (not_congr (lg_cmp_eq _ _)).mp c0
    have hF := if_f hF c0
    refine lv_iconst (v := 0) hx hb dX7_divides_19 (by decide) ?_
    exact hk20 (0 : Int32) ls (lv_sub hl [] rfl) hF
  · have c0 := (lg_cmp_eq _ _).mp c0
    have hF := if_t hF c0
    refine lv_iconst (v := 1) hx hb dX7_divides_15 (by decide) ?_
    refine lv_goto (tgt := 20) hx hb dX7_divides_16 (by decide) ?_
    exact hk20 (1 : Int32) ls (lv_sub hl [] rfl) hF
def fX7_lined (prime : Int32) (lineT : Int32) (lineU : Int32) (line : Nat → Int64) (p0 : Int32) : Option (Int64) :=
  if okI p0 3 then nm (fun (s_1 : Int64) => nm ((line p0.toNatClampNeg) + s_1) (fun (v_2 : Int64) => some v_2)) (fun (k29 : (Int64) → Option (Int64)) => if p0 = lineU then ((k29 (prime.toInt64 * lineT.toInt64))) else ((k29 (0 : Int64)))) else none
def lkX7_lined : List Cond := [.fieldLink RX7 45 "KinFormsModel" "line" "[J", .fieldLink RX7 193 "KinFormsModel" "lineU" "I", .fieldLink RX7 13 "KinFormsModel" "prime" "I", .fieldLink RX7 196 "KinFormsModel" "lineT" "I"]
def vX7_lined : List Cond := .code yX7_lined cX7_lined 2 (some .long) :: (lkX7_lined ++ (wsX70 ++ ([])))
theorem q_X7_lined : ∀ w ∈ vX7_lined, goodWord w = true := gd_cons rfl (gd_app (by decide +kernel) (gd_app q_wsX70 gd_nil))
abbrev rmX7_lined : Room := { frames := 0, cells := 0, slots := 0, locals := 0 }
set_option maxHeartbeats 4000000 in
set_option maxRecDepth 100000 in
theorem c_X7_lined (l : Launch) (dC : Nat → ClassId) (dI : Nat → Nat → Nat) (cI : ClassId) (cJ : ClassId) (h : Nat) (a : Nat → Nat) (forms : Int32) (prime : Int32) (turns : Int32) (lineT : Int32) (lineU : Int32) (kinds : Int32) (upper : Int64) (lower : Int64) (numbers : Nat → Int32) (q : Nat → Int64) (base : Nat → Int64) (least : Nat → Int64) (table : Nat → Int64) (rows : Nat → Int64) (lists : Nat → Int64) (listSize : Nat → Int32) (tried : Nat → Int64) (other : Nat → Int64) (line : Nat → Int64) (makers : Nat → Int64) (touches : Nat → Int64) (made : Nat → Int64) (kindForm : Nat → Int64) (kindTurns : Nat → Int32) (kindWays : Nat → Int32) (p0 : Int32) (ro : Int64) (hF : fX7_lined prime lineT lineU line p0 = some ro) : Met l yX7_lined vX7_lined rmX7_lined (va_Pc [.ref h, .int p0] (rPc (dC, dI) vwCl (mW cI cJ h a forms prime turns lineT lineU kinds upper lower numbers q base least table rows lists listSize tried other line makers touches made kindForm kindTurns kindWays) [(cI, .int), (cJ, .long)])) (vp_Sl (fun x => x = ro)) 0 0 (fun _ => False) := by
  refine Met.ofW (cc := cX7_lined) (maxL := 2) (ret := (some .long)) (by decide) rfl ?_
  intro p e s m args below meth c s₁ B hml hv
  obtain ⟨rfl, hP, hK⟩ := hv
  have hx := B.exec
  have hb := B.bytes
  have hr := B.returns
  have hts := atoms_spec (ws := vX7_lined) B.pre
  have hlk : ∀ w ∈ lkX7_lined, w.before _ s = true := fun w h => hts w (List.mem_cons_of_mem _ (List.mem_append_left _ h))
  have hown : s.vm.findClass RX7 = some m.cls := findClass_of_methodNamed B.named
  have hlocks := B.notSynchronized
  have hinX7 : ∀ w ∈ wsX70, w ∈ vX7_lined := fun w h => List.mem_cons_of_mem _ (List.mem_append_right _ (List.mem_append_left _ h))
  have hf_45 := hlk (.fieldLink RX7 45 "KinFormsModel" "line" "[J") (by decide +kernel)
  have hf_193 := hlk (.fieldLink RX7 193 "KinFormsModel" "lineU" "I") (by decide +kernel)
  have hf_13 := hlk (.fieldLink RX7 13 "KinFormsModel" "prime" "I") (by decide +kernel)
  have hf_196 := hlk (.fieldLink RX7 196 "KinFormsModel" "lineT" "I") (by decide +kernel)
  have hl := lv_entry ([.ref h, .int p0] : List Value) (n := 2) (Nat.le_of_ble_eq_true rfl)
  rw [lg_entry_eq]
  generalize (lg_sl ([.ref h, .int p0] : List Value) ++ List.replicate (2 - (lg_sl ([.ref h, .int p0] : List Value)).length) Slot.unset).toArray = ls at hl ⊢
  have hl : lv_has ls 2 [(0, .ref h), (1, .int p0)] := hl
  unfold fX7_lined at hF
  refine W_Q (fun Q hQ => ?_)
  refine lv_aload_n hx hb dX7_lined_0 rfl (lv_at hl 0 rfl) ?_
  refine va_get (D := (dC, dI)) (ci := 5) (v := .ref (a 11)) (C := RX7) (T := TX7) (N := 25) hx hb hts hinX7 hown hK hP 0 rfl rfl 13 (by decide) hf_45 (fun _ h9 => h9) rfl dX7_lined_1 ?_
  refine lv_iload_n hx hb dX7_lined_4 rfl (lv_at hl 1 rfl) ?_
  obtain ⟨hi, hF⟩ := ck_of hF
  refine va_lald hx hb hK hP 11 1 rfl rfl hi dX7_lined_5 ?_
  refine lv_iload_n hx hb dX7_lined_6 rfl (lv_at hl 1 rfl) ?_
  refine lv_aload_n hx hb dX7_lined_7 rfl (lv_at hl 0 rfl) ?_
  refine va_get (D := (dC, dI)) (ci := 5) (v := .int lineU) (C := RX7) (T := TX7) (N := 25) hx hb hts hinX7 hown hK hP 0 rfl rfl 15 (by decide) hf_193 (fun _ h9 => h9) rfl dX7_lined_8 ?_
  obtain ⟨k29, e_k29, hF⟩ := nm_ex hF
  have hk29 : ∀ (s_1 : Int64) (ls : Array Slot), lv_has ls 2 [] → k29 s_1 = some ro → W p l e rmX7_lined s m ([.ref h, .int p0] : List Value).toArray below meth c s.heap [] 0 0 Q (F0 m 29 ls [.long s_1, .long (line p0.toNatClampNeg)]) := by
    intro s_1 ls hl hF
    have hF := ka1 e_k29 hF
    refine lv_ladd hx hb dX7_lined_29 ?_
    refine lv_topl (fun v_2 e_v_2 => ?_)
    have hF := nm_at hF e_v_2
    have q0 := sm1 hF
    refine W_Qe hQ ?_
    exact W.lret hx hb hr (fun t ht hW => ⟨_, rfl, q0, ht⟩) (fun _ h9 => by cases h9) dX7_lined_30
  clear e_k29
  refine lv_icmp_ne (tgt := 28) hx hb dX7_lined_11 (by decide) (fun c0 => ?_) (fun c0 => ?_)
  · have hF := if_f hF c0
    refine lv_lconst (v := 0) hx hb dX7_lined_28 (by decide) ?_
    exact hk29 (0 : Int64) ls (lv_sub hl [] rfl) hF
  · have hF := if_t hF c0
    refine lv_aload_n hx hb dX7_lined_14 rfl (lv_at hl 0 rfl) ?_
    refine va_get (D := (dC, dI)) (ci := 5) (v := .int prime) (C := RX7) (T := TX7) (N := 25) hx hb hts hinX7 hown hK hP 0 rfl rfl 2 (by decide) hf_13 (fun _ h9 => h9) rfl dX7_lined_15 ?_
    refine lv_i2l (v := prime.toInt64) hx hb dX7_lined_18 rfl ?_
    refine lv_aload_n hx hb dX7_lined_19 rfl (lv_at hl 0 rfl) ?_
    refine va_get (D := (dC, dI)) (ci := 5) (v := .int lineT) (C := RX7) (T := TX7) (N := 25) hx hb hts hinX7 hown hK hP 0 rfl rfl 14 (by decide) hf_196 (fun _ h9 => h9) rfl dX7_lined_20 ?_
    refine lv_i2l (v := lineT.toInt64) hx hb dX7_lined_23 rfl ?_
    refine lv_lmul hx hb dX7_lined_24 ?_
    refine lv_goto (tgt := 29) hx hb dX7_lined_25 (by decide) ?_
    exact hk29 (prime.toInt64 * lineT.toInt64) ls (lv_sub hl [] rfl) hF
def fX7_findLine_L255 (prime : Int32) (lineU_30 : Int32) (line_22 : Nat → Int64) (q : Nat → Int64) : Nat → (Int32) → Option ((Int32) × (Int32) × (Nat → Int64))
  | 0, _ => none
  | n + 1, lineT_31 => bd1 (fX7_lined prime lineT_31 lineU_30 line_22 (0 : Int32)) (fun (r_32 : Int64) => bd1 (fX7_lined prime lineT_31 lineU_30 line_22 (1 : Int32)) (fun (r_33 : Int64) => bd1 (fX7_lined prime lineT_31 lineU_30 line_22 (2 : Int32)) (fun (r_34 : Int64) => bd1 (fX7_valueOf q r_32 r_33 r_34) (fun (r_35 : Int64) => nm (prime * prime).toInt64 (fun (v_36 : Int64) => if ¬ v_36 = 0 then if (r_35 - r_35 / v_36 * v_36) = (0 : Int64) then (some (lineT_31, lineU_30, line_22)) else (nm (lineT_31 + (1 : Int32)) (fun (lineT_37 : Int32) => (fX7_findLine_L255 prime lineU_30 line_22 q n lineT_37))) else none)))))
def fX7_findLine_L166 (q : Nat → Int64) (line_22 : Nat → Int64) (prime : Int32) (k250 : (Int32) → Option ((Int32) × (Int32) × (Nat → Int64))) : Nat → (Int32) → Option ((Int32) × (Int32) × (Nat → Int64))
  | 0, _ => none
  | n + 1, lineU_23 => nm (fun (s_24 : Int64) => nm (fun (s_25 : Int64) => nm (fun (s_26 : Int64) => bd1 (fX7_touchOf q (line_22 0) (line_22 1) (line_22 2) s_24 s_25 s_26) (fun (r_27 : Int64) => nm (prime.toInt64) (fun (v_28 : Int64) => if ¬ v_28 = 0 then if (r_27 - r_27 / v_28 * v_28) = (0 : Int64) then (nm (lineU_23 + (1 : Int32)) (fun (lineU_29 : Int32) => (fX7_findLine_L166 q line_22 prime k250 n lineU_29))) else ((k250 lineU_23)) else none))) (fun (k223 : (Int64) → Option ((Int32) × (Int32) × (Nat → Int64))) => if lineU_23 = (2 : Int32) then ((k223 (1 : Int64))) else ((k223 (0 : Int64))))) (fun (k210 : (Int64) → Option ((Int32) × (Int32) × (Nat → Int64))) => if lineU_23 = (1 : Int32) then ((k210 (1 : Int64))) else ((k210 (0 : Int64))))) (fun (k197 : (Int64) → Option ((Int32) × (Int32) × (Nat → Int64))) => if lineU_23 = 0 then ((k197 (1 : Int64))) else ((k197 (0 : Int64))))
def fX7_findLine_L7 (prime : Int32) (q : Nat → Int64) (k161 : (Nat → Int64) → Option ((Int32) × (Int32) × (Nat → Int64))) : Nat → (Int32) → (Int32) → (Int32) → (Nat → Int64) → Option ((Int32) × (Int32) × (Nat → Int64))
  | 0, _, _, _, _ => none
  | n + 1, x2_1, x3_2, x4_3, line_4 => if x4_3 = 0 then (nm (x3_2 + (1 : Int32)) (fun (x3_5 : Int32) => nm (prime * prime) (fun (v_6 : Int32) => if ¬ v_6 = 0 then nm (x3_5 / v_6).toInt64 (fun (x5_7 : Int64) => if ¬ prime = 0 then nm (x3_5 / prime) (fun (v_8 : Int32) => if ¬ prime = 0 then nm (v_8 - v_8 / prime * prime).toInt64 (fun (x7_9 : Int64) => if ¬ prime = 0 then nm (x3_5 - x3_5 / prime * prime).toInt64 (fun (x9_10 : Int64) => nm (fun (s_11 : Int32) => nm (fun (x2_19 : Int32) (x4_20 : Int32) (line_21 : Nat → Int64) => (fX7_findLine_L7 prime q k161 n x2_19 x3_5 x4_20 line_21)) (fun (k158 : (Int32) → (Int32) → (Nat → Int64) → Option ((Int32) × (Int32) × (Nat → Int64))) => if s_11 = 0 then ((k158 x2_1 x4_3 line_4)) else (bd1 (fX7_valueOf q x5_7 x7_9 x9_10) (fun (r_12 : Int64) => nm (prime.toInt64) (fun (v_13 : Int64) => if ¬ v_13 = 0 then if (r_12 - r_12 / v_13 * v_13) = (0 : Int64) then (nm (fun (s_14 : Int32) => nm (x2_1 + (-1 : Int32)) (fun (x2_15 : Int32) => nm (vp_updL line_4 0 x5_7) (fun (line_16 : Nat → Int64) => nm (vp_updL line_16 1 x7_9) (fun (line_17 : Nat → Int64) => nm (vp_updL line_17 2 x9_10) (fun (line_18 : Nat → Int64) => (k158 x2_15 s_14 line_18)))))) (fun (k129 : (Int32) → Option ((Int32) × (Int32) × (Nat → Int64))) => if x2_1 = 0 then ((k129 (1 : Int32))) else ((k129 (0 : Int32))))) else ((k158 x2_1 x4_3 line_4)) else none))))) (fun (k92 : (Int32) → Option ((Int32) × (Int32) × (Nat → Int64))) => nm ((k92 (1 : Int32))) (fun (k87 : Option ((Int32) × (Int32) × (Nat → Int64))) => if x5_7 = (1 : Int64) then ((k87)) else (nm ((k92 (0 : Int32))) (fun (k91 : Option ((Int32) × (Int32) × (Nat → Int64))) => if x5_7 = (0 : Int64) then (if x7_9 = (1 : Int64) then ((k87)) else (if x7_9 = (0 : Int64) then (if x9_10 = (1 : Int64) then ((k87)) else ((k91))) else ((k91)))) else ((k91))))))) else none) else none) else none) else none))) else ((k161 line_4))
def fX7_findLine (fu : Nat) (prime : Int32) (q : Nat → Int64) (line : Nat → Int64) (p0 : Int32) : Option ((Int32) × (Int32) × (Nat → Int64)) :=
  nm (fun (line_22 : Nat → Int64) => nm (fun (lineU_30 : Int32) => (fX7_findLine_L255 prime lineU_30 line_22 q fu (0 : Int32))) (fun (k250 : (Int32) → Option ((Int32) × (Int32) × (Nat → Int64))) => (fX7_findLine_L166 q line_22 prime k250 fu (0 : Int32)))) (fun (k161 : (Nat → Int64) → Option ((Int32) × (Int32) × (Nat → Int64))) => (fX7_findLine_L7 prime q k161 fu p0 (0 : Int32) (0 : Int32) line))
def lkX7_findLine : List Cond := [.fieldLink RX7 13 "KinFormsModel" "prime" "I", .fieldLink RX7 45 "KinFormsModel" "line" "[J", .fieldLink RX7 193 "KinFormsModel" "lineU" "I", .fieldLink RX7 196 "KinFormsModel" "lineT" "I"]
def vX7_findLine : List Cond := .code yX7_findLine cX7_findLine 12 none :: (lkX7_findLine ++ (wsX70 ++ (wsV RX7 66 RX7 yX7_valueOf vX7_valueOf ++ (wsV RX7 106 RX7 yX7_touchOf vX7_touchOf ++ (wsV RX7 199 RX7 yX7_lined vX7_lined ++ ([]))))))
theorem q_X7_findLine : ∀ w ∈ vX7_findLine, goodWord w = true := gd_cons rfl (gd_app (by decide +kernel) (gd_app q_wsX70 (gd_app (gd_V q_X7_valueOf) (gd_app (gd_V q_X7_touchOf) (gd_app (gd_V q_X7_lined) gd_nil)))))
theorem g_X7_findLine_X7_valueOf : GoodIn vX7_findLine (wsV RX7 66 RX7 yX7_valueOf vX7_valueOf) := gi_of (fun w h => List.mem_cons_of_mem _ (List.mem_append_right _ (List.mem_append_right _ (List.mem_append_left _ h)))) (gd_V q_X7_valueOf)
theorem g_X7_findLine_X7_touchOf : GoodIn vX7_findLine (wsV RX7 106 RX7 yX7_touchOf vX7_touchOf) := gi_of (fun w h => List.mem_cons_of_mem _ (List.mem_append_right _ (List.mem_append_right _ (List.mem_append_right _ (List.mem_append_left _ h))))) (gd_V q_X7_touchOf)
theorem g_X7_findLine_X7_lined : GoodIn vX7_findLine (wsV RX7 199 RX7 yX7_lined vX7_lined) := gi_of (fun w h => List.mem_cons_of_mem _ (List.mem_append_right _ (List.mem_append_right _ (List.mem_append_right _ (List.mem_append_right _ (List.mem_append_left _ h)))))) (gd_V q_X7_lined)
abbrev rmX7_findLine : Room := { frames := 2, cells := 0, slots := 0, locals := 58 }
set_option maxHeartbeats 4000000 in
set_option maxRecDepth 100000 in
theorem c_X7_findLine (l : Launch) (dC : Nat → ClassId) (dI : Nat → Nat → Nat) (cI : ClassId) (cJ : ClassId) (h : Nat) (a : Nat → Nat) (fu : Nat) (sz : Nat) (forms : Int32) (prime : Int32) (turns : Int32) (lineT : Int32) (lineU : Int32) (kinds : Int32) (upper : Int64) (lower : Int64) (numbers : Nat → Int32) (q : Nat → Int64) (base : Nat → Int64) (least : Nat → Int64) (table : Nat → Int64) (rows : Nat → Int64) (lists : Nat → Int64) (listSize : Nat → Int32) (tried : Nat → Int64) (other : Nat → Int64) (line : Nat → Int64) (makers : Nat → Int64) (touches : Nat → Int64) (made : Nat → Int64) (kindForm : Nat → Int64) (kindTurns : Nat → Int32) (kindWays : Nat → Int32) (p0 : Int32) (o_lineT : Int32) (o_lineU : Int32) (o_line : Nat → Int64) (hF : fX7_findLine fu prime q line p0 = some (o_lineT, o_lineU, o_line)) : Met l yX7_findLine vX7_findLine rmX7_findLine (va_Pc [.ref h, .int p0] (mPc (dC, dI) vwCl (mW cI cJ h a forms prime turns lineT lineU kinds upper lower numbers q base least table rows lists listSize tried other line makers touches made kindForm kindTurns kindWays) [(cI, .int), (cJ, .long)] sz)) (va_Qv (fun (_ : Unit) => True) (mPo (dC, dI) vwCl (mW cI cJ h a forms prime turns o_lineT o_lineU kinds upper lower numbers q base least table rows lists listSize tried other o_line makers touches made kindForm kindTurns kindWays) [(cI, .int), (cJ, .long)] (va_A (mW cI cJ h a forms prime turns lineT lineU kinds upper lower numbers q base least table rows lists listSize tried other line makers touches made kindForm kindTurns kindWays) sz)) (va_A (mW cI cJ h a forms prime turns lineT lineU kinds upper lower numbers q base least table rows lists listSize tried other line makers touches made kindForm kindTurns kindWays) sz)) 0 0 (va_A (mW cI cJ h a forms prime turns lineT lineU kinds upper lower numbers q base least table rows lists listSize tried other line makers touches made kindForm kindTurns kindWays) sz) := by
  refine Met.ofW (cc := cX7_findLine) (maxL := 12) (ret := none) (by decide) rfl ?_
  intro p e s m args below meth c s₁ B hml hv
  obtain ⟨rfl, hsz, hP, hK, hD0⟩ := hv
  have hx := B.exec
  have hb := B.bytes
  have hr := B.returns
  have hts := atoms_spec (ws := vX7_findLine) B.pre
  have hlk : ∀ w ∈ lkX7_findLine, w.before _ s = true := fun w h => hts w (List.mem_cons_of_mem _ (List.mem_append_left _ h))
  have hown : s.vm.findClass RX7 = some m.cls := findClass_of_methodNamed B.named
  have hlocks := B.notSynchronized
  subst hsz
  have hD := hD0.self (sz := s.heap.size)
  generalize hAe : va_A (mW cI cJ h a forms prime turns lineT lineU kinds upper lower numbers q base least table rows lists listSize tried other line makers touches made kindForm kindTurns kindWays) s.heap.size = A at hD ⊢
  have hA : ∀ q : Nat, s.heap.size ≤ q → A q := fun q h => by rw [← hAe]; exact Or.inr h
  have hS : va_S A s.heap s.heap [] := va_S.rf
  have hinX7 : ∀ w ∈ wsX70, w ∈ vX7_findLine := fun w h => List.mem_cons_of_mem _ (List.mem_append_right _ (List.mem_append_left _ h))
  have hf_13 := hlk (.fieldLink RX7 13 "KinFormsModel" "prime" "I") (by decide +kernel)
  have hf_45 := hlk (.fieldLink RX7 45 "KinFormsModel" "line" "[J") (by decide +kernel)
  have hf_193 := hlk (.fieldLink RX7 193 "KinFormsModel" "lineU" "I") (by decide +kernel)
  have hf_196 := hlk (.fieldLink RX7 196 "KinFormsModel" "lineT" "I") (by decide +kernel)
  have hl := lv_entry ([.ref h, .int p0] : List Value) (n := 12) (Nat.le_of_ble_eq_true rfl)
  rw [lg_entry_eq]
  generalize (lg_sl ([.ref h, .int p0] : List Value) ++ List.replicate (12 - (lg_sl ([.ref h, .int p0] : List Value)).length) Slot.unset).toArray = ls at hl ⊢
  have hl : lv_has ls 12 [(0, .ref h), (1, .int p0)] := hl
  unfold fX7_findLine at hF
  refine W_Q (fun Q hQ => ?_)
  have hP : va_P (dC, dI) vwCl (mW cI cJ h a forms prime turns lineT lineU kinds upper lower numbers q base least table rows lists listSize tried other line makers touches made kindForm kindTurns kindWays) s.heap := hP
  refine W_HL (fun H locs eH eL => ?_)
  rw [← eH] at hP
  have hS : va_S A s.heap H locs := by rw [eH, eL]; exact hS
  refine lv_iload_n hx hb dX7_findLine_0 rfl (lv_at hl 1 rfl) ?_
  refine lv_istore_n (lv' := [(2, .int p0), (0, .ref h), (1, .int p0)]) hx hb dX7_findLine_1 rfl hl (by decide) rfl (fun ls hl => ?_)
  refine lv_iconst (v := 0) hx hb dX7_findLine_2 (by decide) ?_
  refine lv_istore_n (lv' := [(3, .int (0 : Int32)), (2, .int p0), (0, .ref h), (1, .int p0)]) hx hb dX7_findLine_3 rfl hl (by decide) rfl (fun ls hl => ?_)
  refine lv_iconst (v := 0) hx hb dX7_findLine_4 (by decide) ?_
  refine lv_istore (lv' := [(4, .int (0 : Int32)), (3, .int (0 : Int32)), (2, .int p0), (0, .ref h), (1, .int p0)]) hx hb dX7_findLine_5 hl (by decide) rfl (fun ls hl => ?_)
  obtain ⟨k161, e_k161, hF⟩ := nm_ex hF
  have hk161 : ∀ (line_22 : Nat → Int64) (H : Heap) (locs : List Loc) (ls : Array Slot), va_P (dC, dI) vwCl (mW cI cJ h a forms prime turns lineT lineU kinds upper lower numbers q base least table rows lists listSize tried other line_22 makers touches made kindForm kindTurns kindWays) H → va_D A (mW cI cJ h a forms prime turns lineT lineU kinds upper lower numbers q base least table rows lists listSize tried other line_22 makers touches made kindForm kindTurns kindWays) → va_S A s.heap H locs → lv_has ls 12 [(0, .ref h)] → k161 line_22 = some (o_lineT, o_lineU, o_line) → W p l e rmX7_findLine s m ([.ref h, .int p0] : List Value).toArray below meth c H locs 0 0 Q (F0 m 161 ls []) := by
    intro line_22 H locs ls hP hD hS hl hF
    have hF := ka1 e_k161 hF
    refine lv_aload_n hx hb dX7_findLine_161 rfl (lv_at hl 0 rfl) ?_
    refine lv_iconst (v := 0) hx hb dX7_findLine_162 (by decide) ?_
    refine va_put (D := (dC, dI)) (ci := 5) (v := .int (0 : Int32)) (ty := .int) (C := RX7) (T := TX7) (N := 25) hx hb hts hinX7 tyX7 tyX7_ok nmX7 hown hK hP hD hS 0 rfl rfl 15 (by decide) hf_193 (fun _ h9 => h9) rfl (by decide +kernel) rfl rfl (Nat.le_of_ble_eq_true rfl) dX7_findLine_163 (fun H locs hP hD hS => ?_)
    have hP : va_P (dC, dI) vwCl (mW cI cJ h a forms prime turns lineT (0 : Int32) kinds upper lower numbers q base least table rows lists listSize tried other line_22 makers touches made kindForm kindTurns kindWays) H := hP
    have hD : va_D A (mW cI cJ h a forms prime turns lineT (0 : Int32) kinds upper lower numbers q base least table rows lists listSize tried other line_22 makers touches made kindForm kindTurns kindWays) := hD
    obtain ⟨k250, e_k250, hF⟩ := nm_ex hF
    have hk250 : ∀ (lineU_30 : Int32) (H : Heap) (locs : List Loc) (ls : Array Slot), va_P (dC, dI) vwCl (mW cI cJ h a forms prime turns lineT lineU_30 kinds upper lower numbers q base least table rows lists listSize tried other line_22 makers touches made kindForm kindTurns kindWays) H → va_D A (mW cI cJ h a forms prime turns lineT lineU_30 kinds upper lower numbers q base least table rows lists listSize tried other line_22 makers touches made kindForm kindTurns kindWays) → va_S A s.heap H locs → lv_has ls 12 [(0, .ref h)] → k250 lineU_30 = some (o_lineT, o_lineU, o_line) → W p l e rmX7_findLine s m ([.ref h, .int p0] : List Value).toArray below meth c H locs 0 0 Q (F0 m 250 ls []) := by
      intro lineU_30 H locs ls hP hD hS hl hF
      have hF := ka1 e_k250 hF
      refine lv_aload_n hx hb dX7_findLine_250 rfl (lv_at hl 0 rfl) ?_
      refine lv_iconst (v := 0) hx hb dX7_findLine_251 (by decide) ?_
      refine va_put (D := (dC, dI)) (ci := 5) (v := .int (0 : Int32)) (ty := .int) (C := RX7) (T := TX7) (N := 25) hx hb hts hinX7 tyX7 tyX7_ok nmX7 hown hK hP hD hS 0 rfl rfl 14 (by decide) hf_196 (fun _ h9 => h9) rfl (by decide +kernel) rfl rfl (Nat.le_of_ble_eq_true rfl) dX7_findLine_252 (fun H locs hP hD hS => ?_)
      have hP : va_P (dC, dI) vwCl (mW cI cJ h a forms prime turns (0 : Int32) lineU_30 kinds upper lower numbers q base least table rows lists listSize tried other line_22 makers touches made kindForm kindTurns kindWays) H := hP
      have hD : va_D A (mW cI cJ h a forms prime turns (0 : Int32) lineU_30 kinds upper lower numbers q base least table rows lists listSize tried other line_22 makers touches made kindForm kindTurns kindWays) := hD
      have hL255 : ∀ n : Nat, ∀ (lineT_31 : Int32) (H : Heap) (locs : List Loc) (ls : Array Slot), va_P (dC, dI) vwCl (mW cI cJ h a forms prime turns lineT_31 lineU_30 kinds upper lower numbers q base least table rows lists listSize tried other line_22 makers touches made kindForm kindTurns kindWays) H → va_D A (mW cI cJ h a forms prime turns lineT_31 lineU_30 kinds upper lower numbers q base least table rows lists listSize tried other line_22 makers touches made kindForm kindTurns kindWays) → va_S A s.heap H locs → lv_has ls 12 [(0, .ref h)] → fX7_findLine_L255 prime lineU_30 line_22 q n lineT_31 = some (o_lineT, o_lineU, o_line) → W p l e rmX7_findLine s m ([.ref h, .int p0] : List Value).toArray below meth c H locs 0 0 Q (F0 m 255 ls []) := by
        intro n
        induction n with
        | zero => intro lineT_31 H locs ls hP hD hS hl hF; rw [fX7_findLine_L255] at hF; cases hF
        | succ n ih255 =>
          intro lineT_31 H locs ls hP hD hS hl hF
          rw [fX7_findLine_L255] at hF
          refine lv_aload_n hx hb dX7_findLine_255 rfl (lv_at hl 0 rfl) ?_
          refine lv_aload_n hx hb dX7_findLine_256 rfl (lv_at hl 0 rfl) ?_
          refine lv_iconst (v := 0) hx hb dX7_findLine_257 (by decide) ?_
          obtain ⟨r_32, hc, hF⟩ := bd1_of hF
          refine rc_l (va_runV (As := [.int (0 : Int32)]) (rest := [.ref h]) ⟨hx, hb, hml, hown, hts⟩ (c_X7_lined l dC dI cI cJ h a forms prime turns lineT_31 lineU_30 kinds upper lower numbers q base least table rows lists listSize tried other line_22 makers touches made kindForm kindTurns kindWays (0 : Int32) r_32 hc) (cwV 1 hts g_X7_findLine_X7_lined rfl rfl rfl (by decide +kernel) ⟨Nat.le_of_ble_eq_true rfl, Nat.le_of_ble_eq_true rfl⟩) ⟨rPc_blind, va_recv hK hP (ci := 5) (q0 := 0) rfl rfl, rPc_at hK hP⟩ rfl rfl hl.1 rfl (lv_room (Nat.le_of_ble_eq_true rfl)) dX7_findLine_258 ⟨Nat.zero_le _, Nat.zero_le _⟩) ?_
          refine lv_aload_n hx hb dX7_findLine_261 rfl (lv_at hl 0 rfl) ?_
          refine lv_iconst (v := 1) hx hb dX7_findLine_262 (by decide) ?_
          obtain ⟨r_33, hc, hF⟩ := bd1_of hF
          refine rc_l (va_runV (As := [.int (1 : Int32)]) (rest := [.long r_32, .ref h]) ⟨hx, hb, hml, hown, hts⟩ (c_X7_lined l dC dI cI cJ h a forms prime turns lineT_31 lineU_30 kinds upper lower numbers q base least table rows lists listSize tried other line_22 makers touches made kindForm kindTurns kindWays (1 : Int32) r_33 hc) (cwV 1 hts g_X7_findLine_X7_lined rfl rfl rfl (by decide +kernel) ⟨Nat.le_of_ble_eq_true rfl, Nat.le_of_ble_eq_true rfl⟩) ⟨rPc_blind, va_recv hK hP (ci := 5) (q0 := 0) rfl rfl, rPc_at hK hP⟩ rfl rfl hl.1 rfl (lv_room (Nat.le_of_ble_eq_true rfl)) dX7_findLine_263 ⟨Nat.zero_le _, Nat.zero_le _⟩) ?_
          refine lv_aload_n hx hb dX7_findLine_266 rfl (lv_at hl 0 rfl) ?_
          refine lv_iconst (v := 2) hx hb dX7_findLine_267 (by decide) ?_
          obtain ⟨r_34, hc, hF⟩ := bd1_of hF
          refine rc_l (va_runV (As := [.int (2 : Int32)]) (rest := [.long r_33, .long r_32, .ref h]) ⟨hx, hb, hml, hown, hts⟩ (c_X7_lined l dC dI cI cJ h a forms prime turns lineT_31 lineU_30 kinds upper lower numbers q base least table rows lists listSize tried other line_22 makers touches made kindForm kindTurns kindWays (2 : Int32) r_34 hc) (cwV 1 hts g_X7_findLine_X7_lined rfl rfl rfl (by decide +kernel) ⟨Nat.le_of_ble_eq_true rfl, Nat.le_of_ble_eq_true rfl⟩) ⟨rPc_blind, va_recv hK hP (ci := 5) (q0 := 0) rfl rfl, rPc_at hK hP⟩ rfl rfl hl.1 rfl (lv_room (Nat.le_of_ble_eq_true rfl)) dX7_findLine_268 ⟨Nat.zero_le _, Nat.zero_le _⟩) ?_
          obtain ⟨r_35, hc, hF⟩ := bd1_of hF
          refine rc_l (va_runV (As := [.long r_32, .long r_33, .long r_34]) (rest := []) ⟨hx, hb, hml, hown, hts⟩ (c_X7_valueOf l dC dI cI cJ h a forms prime turns lineT_31 lineU_30 kinds upper lower numbers q base least table rows lists listSize tried other line_22 makers touches made kindForm kindTurns kindWays r_32 r_33 r_34 r_35 hc) (cwV 3 hts g_X7_findLine_X7_valueOf rfl rfl rfl (by decide +kernel) ⟨Nat.le_of_ble_eq_true rfl, Nat.le_of_ble_eq_true rfl⟩) ⟨rPc_blind, va_recv hK hP (ci := 5) (q0 := 0) rfl rfl, rPc_at hK hP⟩ rfl rfl hl.1 rfl (lv_room (Nat.le_of_ble_eq_true rfl)) dX7_findLine_271 ⟨Nat.zero_le _, Nat.zero_le _⟩) ?_
          refine lv_aload_n hx hb dX7_findLine_274 rfl (lv_at hl 0 rfl) ?_
          refine va_get (D := (dC, dI)) (ci := 5) (v := .int prime) (C := RX7) (T := TX7) (N := 25) hx hb hts hinX7 hown hK hP 0 rfl rfl 2 (by decide) hf_13 (fun _ h9 => h9) rfl dX7_findLine_275 ?_
          refine lv_aload_n hx hb dX7_findLine_278 rfl (lv_at hl 0 rfl) ?_
          refine va_get (D := (dC, dI)) (ci := 5) (v := .int prime) (C := RX7) (T := TX7) (N := 25) hx hb hts hinX7 hown hK hP 0 rfl rfl 2 (by decide) hf_13 (fun _ h9 => h9) rfl dX7_findLine_279 ?_
          refine lv_imul hx hb dX7_findLine_282 ?_
          refine lv_i2l (v := (prime * prime).toInt64) hx hb dX7_findLine_283 rfl ?_
          refine lv_topl (fun v_36 e_v_36 => ?_)
          have hF := nm_at hF e_v_36
          obtain ⟨hz, hF⟩ := ck_of hF
          refine lv_lrem hx hb dX7_findLine_284 hz ?_
          refine lv_lconst (v := 0) hx hb dX7_findLine_285 (by decide) ?_
          refine W.lcmp hx hb dX7_findLine_286 ?_
          refine lv_if_eq (tgt := 303) hx hb dX7_findLine_287 (by decide) (fun c0 => ?_) (fun c0 => ?_)
          · have c0 := (lg_cmp_eq _ _).mp c0
            have hF := if_t hF c0
            obtain ⟨q0, q1, q2⟩ := sm3 hF
            have hP : va_P (dC, dI) vwCl (mW cI cJ h a forms prime turns o_lineT o_lineU kinds upper lower numbers q base least table rows lists listSize tried other o_line makers touches made kindForm kindTurns kindWays) H := by rw [← q0, ← q1, ← q2]; exact hP
            have hD : va_D A (mW cI cJ h a forms prime turns o_lineT o_lineU kinds upper lower numbers q base least table rows lists listSize tried other o_line makers touches made kindForm kindTurns kindWays) := by rw [← q0, ← q1, ← q2]; exact hD
            refine W_Qe hQ ?_
            exact W.vret hx hb hr (fun t ht hW => ⟨⟨(), rfl, trivial, by rw [ht]; exact hP, va_K.moved hW.alike hK, hD⟩, hS.F ht⟩) hS.2.2 dX7_findLine_303
          · have c0 := (not_congr (lg_cmp_eq _ _)).mp c0
            have hF := if_f hF c0
            refine lv_aload_n hx hb dX7_findLine_290 rfl (lv_at hl 0 rfl) ?_
            refine lv_dup hx hb dX7_findLine_291 rfl ?_
            refine va_get (D := (dC, dI)) (ci := 5) (v := .int lineT_31) (C := RX7) (T := TX7) (N := 25) hx hb hts hinX7 hown hK hP 0 rfl rfl 14 (by decide) hf_196 (fun _ h9 => h9) rfl dX7_findLine_292 ?_
            refine lv_iconst (v := 1) hx hb dX7_findLine_295 (by decide) ?_
            refine lv_iadd hx hb dX7_findLine_296 ?_
            refine lv_topi (fun lineT_37 e_lineT_37 => ?_)
            have hF := nm_at hF e_lineT_37
            refine va_put (D := (dC, dI)) (ci := 5) (v := .int lineT_37) (ty := .int) (C := RX7) (T := TX7) (N := 25) hx hb hts hinX7 tyX7 tyX7_ok nmX7 hown hK hP hD hS 0 rfl rfl 14 (by decide) hf_196 (fun _ h9 => h9) rfl (by decide +kernel) rfl rfl (Nat.le_of_ble_eq_true rfl) dX7_findLine_297 (fun H locs hP hD hS => ?_)
            have hP : va_P (dC, dI) vwCl (mW cI cJ h a forms prime turns lineT_37 lineU_30 kinds upper lower numbers q base least table rows lists listSize tried other line_22 makers touches made kindForm kindTurns kindWays) H := hP
            have hD : va_D A (mW cI cJ h a forms prime turns lineT_37 lineU_30 kinds upper lower numbers q base least table rows lists listSize tried other line_22 makers touches made kindForm kindTurns kindWays) := hD
            refine lv_goto (tgt := 255) hx hb dX7_findLine_300 (by decide) ?_
            exact ih255 lineT_37 H locs ls hP hD hS (lv_sub hl [0] rfl) hF
      exact hL255 fu (0 : Int32) H locs ls hP hD hS (lv_sub hl [0] rfl) hF
    clear e_k250
    have hL166 : ∀ n : Nat, ∀ (lineU_23 : Int32) (H : Heap) (locs : List Loc) (ls : Array Slot), va_P (dC, dI) vwCl (mW cI cJ h a forms prime turns lineT lineU_23 kinds upper lower numbers q base least table rows lists listSize tried other line_22 makers touches made kindForm kindTurns kindWays) H → va_D A (mW cI cJ h a forms prime turns lineT lineU_23 kinds upper lower numbers q base least table rows lists listSize tried other line_22 makers touches made kindForm kindTurns kindWays) → va_S A s.heap H locs → lv_has ls 12 [(0, .ref h)] → fX7_findLine_L166 q line_22 prime k250 n lineU_23 = some (o_lineT, o_lineU, o_line) → W p l e rmX7_findLine s m ([.ref h, .int p0] : List Value).toArray below meth c H locs 0 0 Q (F0 m 166 ls []) := by
      intro n
      induction n with
      | zero => intro lineU_23 H locs ls hP hD hS hl hF; rw [fX7_findLine_L166] at hF; cases hF
      | succ n ih166 =>
        intro lineU_23 H locs ls hP hD hS hl hF
        rw [fX7_findLine_L166] at hF
        refine lv_aload_n hx hb dX7_findLine_166 rfl (lv_at hl 0 rfl) ?_
        refine lv_aload_n hx hb dX7_findLine_167 rfl (lv_at hl 0 rfl) ?_
        refine va_get (D := (dC, dI)) (ci := 5) (v := .ref (a 11)) (C := RX7) (T := TX7) (N := 25) hx hb hts hinX7 hown hK hP 0 rfl rfl 13 (by decide) hf_45 (fun _ h9 => h9) rfl dX7_findLine_168 ?_
        refine lv_iconst (v := 0) hx hb dX7_findLine_171 (by decide) ?_
        refine kc_lald (j := 0) hx hb hK hP 11 1 rfl rfl (by decide) (by decide) dX7_findLine_172 ?_
        refine lv_aload_n hx hb dX7_findLine_173 rfl (lv_at hl 0 rfl) ?_
        refine va_get (D := (dC, dI)) (ci := 5) (v := .ref (a 11)) (C := RX7) (T := TX7) (N := 25) hx hb hts hinX7 hown hK hP 0 rfl rfl 13 (by decide) hf_45 (fun _ h9 => h9) rfl dX7_findLine_174 ?_
        refine lv_iconst (v := 1) hx hb dX7_findLine_177 (by decide) ?_
        refine kc_lald (j := 1) hx hb hK hP 11 1 rfl rfl (by decide) (by decide) dX7_findLine_178 ?_
        refine lv_aload_n hx hb dX7_findLine_179 rfl (lv_at hl 0 rfl) ?_
        refine va_get (D := (dC, dI)) (ci := 5) (v := .ref (a 11)) (C := RX7) (T := TX7) (N := 25) hx hb hts hinX7 hown hK hP 0 rfl rfl 13 (by decide) hf_45 (fun _ h9 => h9) rfl dX7_findLine_180 ?_
        refine lv_iconst (v := 2) hx hb dX7_findLine_183 (by decide) ?_
        refine kc_lald (j := 2) hx hb hK hP 11 1 rfl rfl (by decide) (by decide) dX7_findLine_184 ?_
        refine lv_aload_n hx hb dX7_findLine_185 rfl (lv_at hl 0 rfl) ?_
        refine va_get (D := (dC, dI)) (ci := 5) (v := .int lineU_23) (C := RX7) (T := TX7) (N := 25) hx hb hts hinX7 hown hK hP 0 rfl rfl 15 (by decide) hf_193 (fun _ h9 => h9) rfl dX7_findLine_186 ?_
        obtain ⟨k197, e_k197, hF⟩ := nm_ex hF
        have hk197 : ∀ (s_24 : Int64) (H : Heap) (locs : List Loc) (ls : Array Slot), va_P (dC, dI) vwCl (mW cI cJ h a forms prime turns lineT lineU_23 kinds upper lower numbers q base least table rows lists listSize tried other line_22 makers touches made kindForm kindTurns kindWays) H → va_D A (mW cI cJ h a forms prime turns lineT lineU_23 kinds upper lower numbers q base least table rows lists listSize tried other line_22 makers touches made kindForm kindTurns kindWays) → va_S A s.heap H locs → lv_has ls 12 [(0, .ref h)] → k197 s_24 = some (o_lineT, o_lineU, o_line) → W p l e rmX7_findLine s m ([.ref h, .int p0] : List Value).toArray below meth c H locs 0 0 Q (F0 m 197 ls [.long s_24, .long (line_22 2), .long (line_22 1), .long (line_22 0), .ref h]) := by
          intro s_24 H locs ls hP hD hS hl hF
          have hF := ka1 e_k197 hF
          refine lv_aload_n hx hb dX7_findLine_197 rfl (lv_at hl 0 rfl) ?_
          refine va_get (D := (dC, dI)) (ci := 5) (v := .int lineU_23) (C := RX7) (T := TX7) (N := 25) hx hb hts hinX7 hown hK hP 0 rfl rfl 15 (by decide) hf_193 (fun _ h9 => h9) rfl dX7_findLine_198 ?_
          refine lv_iconst (v := 1) hx hb dX7_findLine_201 (by decide) ?_
          obtain ⟨k210, e_k210, hF⟩ := nm_ex hF
          have hk210 : ∀ (s_25 : Int64) (H : Heap) (locs : List Loc) (ls : Array Slot), va_P (dC, dI) vwCl (mW cI cJ h a forms prime turns lineT lineU_23 kinds upper lower numbers q base least table rows lists listSize tried other line_22 makers touches made kindForm kindTurns kindWays) H → va_D A (mW cI cJ h a forms prime turns lineT lineU_23 kinds upper lower numbers q base least table rows lists listSize tried other line_22 makers touches made kindForm kindTurns kindWays) → va_S A s.heap H locs → lv_has ls 12 [(0, .ref h)] → k210 s_25 = some (o_lineT, o_lineU, o_line) → W p l e rmX7_findLine s m ([.ref h, .int p0] : List Value).toArray below meth c H locs 0 0 Q (F0 m 210 ls [.long s_25, .long s_24, .long (line_22 2), .long (line_22 1), .long (line_22 0), .ref h]) := by
            intro s_25 H locs ls hP hD hS hl hF
            have hF := ka1 e_k210 hF
            refine lv_aload_n hx hb dX7_findLine_210 rfl (lv_at hl 0 rfl) ?_
            refine va_get (D := (dC, dI)) (ci := 5) (v := .int lineU_23) (C := RX7) (T := TX7) (N := 25) hx hb hts hinX7 hown hK hP 0 rfl rfl 15 (by decide) hf_193 (fun _ h9 => h9) rfl dX7_findLine_211 ?_
            refine lv_iconst (v := 2) hx hb dX7_findLine_214 (by decide) ?_
            obtain ⟨k223, e_k223, hF⟩ := nm_ex hF
            have hk223 : ∀ (s_26 : Int64) (H : Heap) (locs : List Loc) (ls : Array Slot), va_P (dC, dI) vwCl (mW cI cJ h a forms prime turns lineT lineU_23 kinds upper lower numbers q base least table rows lists listSize tried other line_22 makers touches made kindForm kindTurns kindWays) H → va_D A (mW cI cJ h a forms prime turns lineT lineU_23 kinds upper lower numbers q base least table rows lists listSize tried other line_22 makers touches made kindForm kindTurns kindWays) → va_S A s.heap H locs → lv_has ls 12 [(0, .ref h)] → k223 s_26 = some (o_lineT, o_lineU, o_line) → W p l e rmX7_findLine s m ([.ref h, .int p0] : List Value).toArray below meth c H locs 0 0 Q (F0 m 223 ls [.long s_26, .long s_25, .long s_24, .long (line_22 2), .long (line_22 1), .long (line_22 0), .ref h]) := by
              intro s_26 H locs ls hP hD hS hl hF
              have hF := ka1 e_k223 hF
              obtain ⟨r_27, hc, hF⟩ := bd1_of hF
              refine rc_l (va_runV (As := [.long (line_22 0), .long (line_22 1), .long (line_22 2), .long s_24, .long s_25, .long s_26]) (rest := []) ⟨hx, hb, hml, hown, hts⟩ (c_X7_touchOf l dC dI cI cJ h a forms prime turns lineT lineU_23 kinds upper lower numbers q base least table rows lists listSize tried other line_22 makers touches made kindForm kindTurns kindWays (line_22 0) (line_22 1) (line_22 2) s_24 s_25 s_26 r_27 hc) (cwV 6 hts g_X7_findLine_X7_touchOf rfl rfl rfl (by decide +kernel) ⟨Nat.le_of_ble_eq_true rfl, Nat.le_of_ble_eq_true rfl⟩) ⟨rPc_blind, va_recv hK hP (ci := 5) (q0 := 0) rfl rfl, rPc_at hK hP⟩ rfl rfl hl.1 rfl (lv_room (Nat.le_of_ble_eq_true rfl)) dX7_findLine_223 ⟨Nat.zero_le _, Nat.zero_le _⟩) ?_
              refine lv_aload_n hx hb dX7_findLine_226 rfl (lv_at hl 0 rfl) ?_
              refine va_get (D := (dC, dI)) (ci := 5) (v := .int prime) (C := RX7) (T := TX7) (N := 25) hx hb hts hinX7 hown hK hP 0 rfl rfl 2 (by decide) hf_13 (fun _ h9 => h9) rfl dX7_findLine_227 ?_
              refine lv_i2l (v := prime.toInt64) hx hb dX7_findLine_230 rfl ?_
              refine lv_topl (fun v_28 e_v_28 => ?_)
              have hF := nm_at hF e_v_28
              obtain ⟨hz, hF⟩ := ck_of hF
              refine lv_lrem hx hb dX7_findLine_231 hz ?_
              refine lv_lconst (v := 0) hx hb dX7_findLine_232 (by decide) ?_
              refine W.lcmp hx hb dX7_findLine_233 ?_
              refine lv_if_ne (tgt := 250) hx hb dX7_findLine_234 (by decide) (fun c0 => ?_) (fun c0 => ?_)
              · have c0 := (not_congr (lg_cmp_eq _ _)).mp c0
                have hF := if_f hF c0
                exact hk250 lineU_23 H locs ls hP hD hS (lv_sub hl [0] rfl) hF
              · have c0 := (lg_cmp_eq _ _).mp c0
                have hF := if_t hF c0
                refine lv_aload_n hx hb dX7_findLine_237 rfl (lv_at hl 0 rfl) ?_
                refine lv_dup hx hb dX7_findLine_238 rfl ?_
                refine va_get (D := (dC, dI)) (ci := 5) (v := .int lineU_23) (C := RX7) (T := TX7) (N := 25) hx hb hts hinX7 hown hK hP 0 rfl rfl 15 (by decide) hf_193 (fun _ h9 => h9) rfl dX7_findLine_239 ?_
                refine lv_iconst (v := 1) hx hb dX7_findLine_242 (by decide) ?_
                refine lv_iadd hx hb dX7_findLine_243 ?_
                refine lv_topi (fun lineU_29 e_lineU_29 => ?_)
                have hF := nm_at hF e_lineU_29
                refine va_put (D := (dC, dI)) (ci := 5) (v := .int lineU_29) (ty := .int) (C := RX7) (T := TX7) (N := 25) hx hb hts hinX7 tyX7 tyX7_ok nmX7 hown hK hP hD hS 0 rfl rfl 15 (by decide) hf_193 (fun _ h9 => h9) rfl (by decide +kernel) rfl rfl (Nat.le_of_ble_eq_true rfl) dX7_findLine_244 (fun H locs hP hD hS => ?_)
                have hP : va_P (dC, dI) vwCl (mW cI cJ h a forms prime turns lineT lineU_29 kinds upper lower numbers q base least table rows lists listSize tried other line_22 makers touches made kindForm kindTurns kindWays) H := hP
                have hD : va_D A (mW cI cJ h a forms prime turns lineT lineU_29 kinds upper lower numbers q base least table rows lists listSize tried other line_22 makers touches made kindForm kindTurns kindWays) := hD
                refine lv_goto (tgt := 166) hx hb dX7_findLine_247 (by decide) ?_
                exact ih166 lineU_29 H locs ls hP hD hS (lv_sub hl [0] rfl) hF
            clear e_k223
            refine lv_icmp_ne (tgt := 222) hx hb dX7_findLine_215 (by decide) (fun c0 => ?_) (fun c0 => ?_)
            · have hF := if_f hF c0
              refine lv_lconst (v := 0) hx hb dX7_findLine_222 (by decide) ?_
              exact hk223 (0 : Int64) H locs ls hP hD hS (lv_sub hl [0] rfl) hF
            · have hF := if_t hF c0
              refine lv_lconst (v := 1) hx hb dX7_findLine_218 (by decide) ?_
              refine lv_goto (tgt := 223) hx hb dX7_findLine_219 (by decide) ?_
              exact hk223 (1 : Int64) H locs ls hP hD hS (lv_sub hl [0] rfl) hF
          clear e_k210
          refine lv_icmp_ne (tgt := 209) hx hb dX7_findLine_202 (by decide) (fun c0 => ?_) (fun c0 => ?_)
          · have hF := if_f hF c0
            refine lv_lconst (v := 0) hx hb dX7_findLine_209 (by decide) ?_
            exact hk210 (0 : Int64) H locs ls hP hD hS (lv_sub hl [0] rfl) hF
          · have hF := if_t hF c0
            refine lv_lconst (v := 1) hx hb dX7_findLine_205 (by decide) ?_
            refine lv_goto (tgt := 210) hx hb dX7_findLine_206 (by decide) ?_
            exact hk210 (1 : Int64) H locs ls hP hD hS (lv_sub hl [0] rfl) hF
        clear e_k197
        refine lv_if_ne (tgt := 196) hx hb dX7_findLine_189 (by decide) (fun c0 => ?_) (fun c0 => ?_)
        · have hF := if_f hF c0
          refine lv_lconst (v := 0) hx hb dX7_findLine_196 (by decide) ?_
          exact hk197 (0 : Int64) H locs ls hP hD hS (lv_sub hl [0] rfl) hF
        · have hF := if_t hF c0
          refine lv_lconst (v := 1) hx hb dX7_findLine_192 (by decide) ?_
          refine lv_goto (tgt := 197) hx hb dX7_findLine_193 (by decide) ?_
          exact hk197 (1 : Int64) H locs ls hP hD hS (lv_sub hl [0] rfl) hF
    exact hL166 fu (0 : Int32) H locs ls hP hD hS (lv_sub hl [0] rfl) hF
  clear e_k161
  have hL7 : ∀ n : Nat, ∀ (x2_1 : Int32) (x3_2 : Int32) (x4_3 : Int32) (line_4 : Nat → Int64) (H : Heap) (locs : List Loc) (ls : Array Slot), va_P (dC, dI) vwCl (mW cI cJ h a forms prime turns lineT lineU kinds upper lower numbers q base least table rows lists listSize tried other line_4 makers touches made kindForm kindTurns kindWays) H → va_D A (mW cI cJ h a forms prime turns lineT lineU kinds upper lower numbers q base least table rows lists listSize tried other line_4 makers touches made kindForm kindTurns kindWays) → va_S A s.heap H locs → lv_has ls 12 [(0, .ref h), (2, .int x2_1), (3, .int x3_2), (4, .int x4_3)] → fX7_findLine_L7 prime q k161 n x2_1 x3_2 x4_3 line_4 = some (o_lineT, o_lineU, o_line) → W p l e rmX7_findLine s m ([.ref h, .int p0] : List Value).toArray below meth c H locs 0 0 Q (F0 m 7 ls []) := by
    intro n
    induction n with
    | zero => intro x2_1 x3_2 x4_3 line_4 H locs ls hP hD hS hl hF; rw [fX7_findLine_L7] at hF; cases hF
    | succ n ih7 =>
      intro x2_1 x3_2 x4_3 line_4 H locs ls hP hD hS hl hF
      rw [fX7_findLine_L7] at hF
      refine lv_iload hx hb dX7_findLine_7 (lv_at hl 3 rfl) ?_
      refine lv_if_ne (tgt := 161) hx hb dX7_findLine_9 (by decide) (fun c0 => ?_) (fun c0 => ?_)
      · have hF := if_f hF c0
        exact hk161 line_4 H locs ls hP hD hS (lv_sub hl [0] rfl) hF
      · have hF := if_t hF c0
        obtain ⟨x3_5, e_x3_5, hF⟩ := nm_ex hF
        refine lv_iinc (v := x3_5) (lv' := [(3, .int x3_5), (0, .ref h), (2, .int x2_1), (4, .int x4_3)]) hx hb dX7_findLine_12 hl (k := 2) rfl (by rw [e_x3_5]; rfl) (by decide) rfl (fun ls hl => ?_)
        refine lv_iload_n hx hb dX7_findLine_15 rfl (lv_at hl 0 rfl) ?_
        refine lv_aload_n hx hb dX7_findLine_16 rfl (lv_at hl 1 rfl) ?_
        refine va_get (D := (dC, dI)) (ci := 5) (v := .int prime) (C := RX7) (T := TX7) (N := 25) hx hb hts hinX7 hown hK hP 0 rfl rfl 2 (by decide) hf_13 (fun _ h9 => h9) rfl dX7_findLine_17 ?_
        refine lv_aload_n hx hb dX7_findLine_20 rfl (lv_at hl 1 rfl) ?_
        refine va_get (D := (dC, dI)) (ci := 5) (v := .int prime) (C := RX7) (T := TX7) (N := 25) hx hb hts hinX7 hown hK hP 0 rfl rfl 2 (by decide) hf_13 (fun _ h9 => h9) rfl dX7_findLine_21 ?_
        refine lv_imul hx hb dX7_findLine_24 ?_
        refine lv_topi (fun v_6 e_v_6 => ?_)
        have hF := nm_at hF e_v_6
        obtain ⟨hz, hF⟩ := ck_of hF
        refine lv_idiv hx hb dX7_findLine_25 hz ?_
        refine lv_i2l (v := (x3_5 / v_6).toInt64) hx hb dX7_findLine_26 rfl ?_
        refine lv_topl (fun x5_7 e_x5_7 => ?_)
        have hF := nm_at hF e_x5_7
        refine lv_lstore (lv' := [(5, .long x5_7), (3, .int x3_5), (0, .ref h), (2, .int x2_1), (4, .int x4_3)]) hx hb dX7_findLine_27 hl (by decide) rfl (fun ls hl => ?_)
        refine lv_iload_n hx hb dX7_findLine_29 rfl (lv_at hl 1 rfl) ?_
        refine lv_aload_n hx hb dX7_findLine_30 rfl (lv_at hl 2 rfl) ?_
        refine va_get (D := (dC, dI)) (ci := 5) (v := .int prime) (C := RX7) (T := TX7) (N := 25) hx hb hts hinX7 hown hK hP 0 rfl rfl 2 (by decide) hf_13 (fun _ h9 => h9) rfl dX7_findLine_31 ?_
        obtain ⟨hz, hF⟩ := ck_of hF
        refine lv_idiv hx hb dX7_findLine_34 hz ?_
        refine lv_aload_n hx hb dX7_findLine_35 rfl (lv_at hl 2 rfl) ?_
        refine va_get (D := (dC, dI)) (ci := 5) (v := .int prime) (C := RX7) (T := TX7) (N := 25) hx hb hts hinX7 hown hK hP 0 rfl rfl 2 (by decide) hf_13 (fun _ h9 => h9) rfl dX7_findLine_36 ?_
        obtain ⟨v_8, e_v_8, hF⟩ := nm_ex hF
        rw [← e_v_8]
        obtain ⟨hz, hF⟩ := ck_of hF
        refine lv_irem hx hb dX7_findLine_39 hz ?_
        refine lv_i2l (v := (v_8 - v_8 / prime * prime).toInt64) hx hb dX7_findLine_40 rfl ?_
        refine lv_topl (fun x7_9 e_x7_9 => ?_)
        have hF := nm_at hF e_x7_9
        refine lv_lstore (lv' := [(7, .long x7_9), (5, .long x5_7), (3, .int x3_5), (0, .ref h), (2, .int x2_1), (4, .int x4_3)]) hx hb dX7_findLine_41 hl (by decide) rfl (fun ls hl => ?_)
        refine lv_iload_n hx hb dX7_findLine_43 rfl (lv_at hl 2 rfl) ?_
        refine lv_aload_n hx hb dX7_findLine_44 rfl (lv_at hl 3 rfl) ?_
        refine va_get (D := (dC, dI)) (ci := 5) (v := .int prime) (C := RX7) (T := TX7) (N := 25) hx hb hts hinX7 hown hK hP 0 rfl rfl 2 (by decide) hf_13 (fun _ h9 => h9) rfl dX7_findLine_45 ?_
        obtain ⟨hz, hF⟩ := ck_of hF
        refine lv_irem hx hb dX7_findLine_48 hz ?_
        refine lv_i2l (v := (x3_5 - x3_5 / prime * prime).toInt64) hx hb dX7_findLine_49 rfl ?_
        refine lv_topl (fun x9_10 e_x9_10 => ?_)
        have hF := nm_at hF e_x9_10
        refine lv_lstore (lv' := [(9, .long x9_10), (7, .long x7_9), (5, .long x5_7), (3, .int x3_5), (0, .ref h), (2, .int x2_1), (4, .int x4_3)]) hx hb dX7_findLine_50 hl (by decide) rfl (fun ls hl => ?_)
        refine lv_lload hx hb dX7_findLine_52 (lv_at hl 2 rfl) ?_
        refine lv_lconst (v := 1) hx hb dX7_findLine_54 (by decide) ?_
        refine W.lcmp hx hb dX7_findLine_55 ?_
        obtain ⟨k92, e_k92, hF⟩ := nm_ex hF
        have hk92 : ∀ (s_11 : Int32) (H : Heap) (locs : List Loc) (ls : Array Slot), va_P (dC, dI) vwCl (mW cI cJ h a forms prime turns lineT lineU kinds upper lower numbers q base least table rows lists listSize tried other line_4 makers touches made kindForm kindTurns kindWays) H → va_D A (mW cI cJ h a forms prime turns lineT lineU kinds upper lower numbers q base least table rows lists listSize tried other line_4 makers touches made kindForm kindTurns kindWays) → va_S A s.heap H locs → lv_has ls 12 [(0, .ref h), (2, .int x2_1), (3, .int x3_5), (4, .int x4_3), (5, .long x5_7), (7, .long x7_9), (9, .long x9_10)] → k92 s_11 = some (o_lineT, o_lineU, o_line) → W p l e rmX7_findLine s m ([.ref h, .int p0] : List Value).toArray below meth c H locs 0 0 Q (F0 m 92 ls [.int s_11]) := by
          intro s_11 H locs ls hP hD hS hl hF
          have hF := ka1 e_k92 hF
          refine lv_istore (lv' := [(11, .int s_11), (0, .ref h), (2, .int x2_1), (3, .int x3_5), (4, .int x4_3), (5, .long x5_7), (7, .long x7_9), (9, .long x9_10)]) hx hb dX7_findLine_92 hl (by decide) rfl (fun ls hl => ?_)
          refine lv_iload hx hb dX7_findLine_94 (lv_at hl 0 rfl) ?_
          obtain ⟨k158, e_k158, hF⟩ := nm_ex hF
          have hk158 : ∀ (x2_19 : Int32) (x4_20 : Int32) (line_21 : Nat → Int64) (H : Heap) (locs : List Loc) (ls : Array Slot), va_P (dC, dI) vwCl (mW cI cJ h a forms prime turns lineT lineU kinds upper lower numbers q base least table rows lists listSize tried other line_21 makers touches made kindForm kindTurns kindWays) H → va_D A (mW cI cJ h a forms prime turns lineT lineU kinds upper lower numbers q base least table rows lists listSize tried other line_21 makers touches made kindForm kindTurns kindWays) → va_S A s.heap H locs → lv_has ls 12 [(0, .ref h), (2, .int x2_19), (3, .int x3_5), (4, .int x4_20)] → k158 x2_19 x4_20 line_21 = some (o_lineT, o_lineU, o_line) → W p l e rmX7_findLine s m ([.ref h, .int p0] : List Value).toArray below meth c H locs 0 0 Q (F0 m 158 ls []) := by
            intro x2_19 x4_20 line_21 H locs ls hP hD hS hl hF
            have hF := ka3 e_k158 hF
            refine lv_goto (tgt := 7) hx hb dX7_findLine_158 (by decide) ?_
            exact ih7 x2_19 x3_5 x4_20 line_21 H locs ls hP hD hS (lv_sub hl [0, 1, 2, 3] rfl) hF
          clear e_k158
          refine lv_if_eq (tgt := 158) hx hb dX7_findLine_96 (by decide) (fun c0 => ?_) (fun c0 => ?_)
          · have hF := if_t hF c0
            exact hk158 x2_1 x4_3 line_4 H locs ls hP hD hS (lv_sub hl [1, 2, 3, 4] rfl) hF
          · have hF := if_f hF c0
            refine lv_aload_n hx hb dX7_findLine_99 rfl (lv_at hl 1 rfl) ?_
            refine lv_lload hx hb dX7_findLine_100 (lv_at hl 5 rfl) ?_
            refine lv_lload hx hb dX7_findLine_102 (lv_at hl 6 rfl) ?_
            refine lv_lload hx hb dX7_findLine_104 (lv_at hl 7 rfl) ?_
            obtain ⟨r_12, hc, hF⟩ := bd1_of hF
            refine rc_l (va_runV (As := [.long x5_7, .long x7_9, .long x9_10]) (rest := []) ⟨hx, hb, hml, hown, hts⟩ (c_X7_valueOf l dC dI cI cJ h a forms prime turns lineT lineU kinds upper lower numbers q base least table rows lists listSize tried other line_4 makers touches made kindForm kindTurns kindWays x5_7 x7_9 x9_10 r_12 hc) (cwV 3 hts g_X7_findLine_X7_valueOf rfl rfl rfl (by decide +kernel) ⟨Nat.le_of_ble_eq_true rfl, Nat.le_of_ble_eq_true rfl⟩) ⟨rPc_blind, va_recv hK hP (ci := 5) (q0 := 0) rfl rfl, rPc_at hK hP⟩ rfl rfl hl.1 rfl (lv_room (Nat.le_of_ble_eq_true rfl)) dX7_findLine_106 ⟨Nat.zero_le _, Nat.zero_le _⟩) ?_
            refine lv_aload_n hx hb dX7_findLine_109 rfl (lv_at hl 1 rfl) ?_
            refine va_get (D := (dC, dI)) (ci := 5) (v := .int prime) (C := RX7) (T := TX7) (N := 25) hx hb hts hinX7 hown hK hP 0 rfl rfl 2 (by decide) hf_13 (fun _ h9 => h9) rfl dX7_findLine_110 ?_
            refine lv_i2l (v := prime.toInt64) hx hb dX7_findLine_113 rfl ?_
            refine lv_topl (fun v_13 e_v_13 => ?_)
            have hF := nm_at hF e_v_13
            obtain ⟨hz, hF⟩ := ck_of hF
            refine lv_lrem hx hb dX7_findLine_114 hz ?_
            refine lv_lconst (v := 0) hx hb dX7_findLine_115 (by decide) ?_
            refine W.lcmp hx hb dX7_findLine_116 ?_
            refine lv_if_ne (tgt := 158) hx hb dX7_findLine_117 (by decide) (fun c0 => ?_) (fun c0 => ?_)
            · have c0 := (not_congr (lg_cmp_eq _ _)).mp c0
              have hF := if_f hF c0
              exact hk158 x2_1 x4_3 line_4 H locs ls hP hD hS (lv_sub hl [1, 2, 3, 4] rfl) hF
            · have c0 := (lg_cmp_eq _ _).mp c0
              have hF := if_t hF c0
              refine lv_iload_n hx hb dX7_findLine_120 rfl (lv_at hl 2 rfl) ?_
              obtain ⟨k129, e_k129, hF⟩ := nm_ex hF
              have hk129 : ∀ (s_14 : Int32) (H : Heap) (locs : List Loc) (ls : Array Slot), va_P (dC, dI) vwCl (mW cI cJ h a forms prime turns lineT lineU kinds upper lower numbers q base least table rows lists listSize tried other line_4 makers touches made kindForm kindTurns kindWays) H → va_D A (mW cI cJ h a forms prime turns lineT lineU kinds upper lower numbers q base least table rows lists listSize tried other line_4 makers touches made kindForm kindTurns kindWays) → va_S A s.heap H locs → lv_has ls 12 [(0, .ref h), (2, .int x2_1), (3, .int x3_5), (5, .long x5_7), (7, .long x7_9), (9, .long x9_10)] → k129 s_14 = some (o_lineT, o_lineU, o_line) → W p l e rmX7_findLine s m ([.ref h, .int p0] : List Value).toArray below meth c H locs 0 0 Q (F0 m 129 ls [.int s_14]) := by
                intro s_14 H locs ls hP hD hS hl hF
                have hF := ka1 e_k129 hF
                refine lv_istore (lv' := [(4, .int s_14), (0, .ref h), (2, .int x2_1), (3, .int x3_5), (5, .long x5_7), (7, .long x7_9), (9, .long x9_10)]) hx hb dX7_findLine_129 hl (by decide) rfl (fun ls hl => ?_)
                obtain ⟨x2_15, e_x2_15, hF⟩ := nm_ex hF
                refine lv_iinc (v := x2_15) (lv' := [(2, .int x2_15), (4, .int s_14), (0, .ref h), (3, .int x3_5), (5, .long x5_7), (7, .long x7_9), (9, .long x9_10)]) hx hb dX7_findLine_131 hl (k := 2) rfl (by rw [e_x2_15]; rfl) (by decide) rfl (fun ls hl => ?_)
                refine lv_aload_n hx hb dX7_findLine_134 rfl (lv_at hl 2 rfl) ?_
                refine va_get (D := (dC, dI)) (ci := 5) (v := .ref (a 11)) (C := RX7) (T := TX7) (N := 25) hx hb hts hinX7 hown hK hP 0 rfl rfl 13 (by decide) hf_45 (fun _ h9 => h9) rfl dX7_findLine_135 ?_
                refine lv_iconst (v := 0) hx hb dX7_findLine_138 (by decide) ?_
                refine lv_lload hx hb dX7_findLine_139 (lv_at hl 4 rfl) ?_
                obtain ⟨line_16, e_line_16, hF⟩ := nm_ex hF
                refine kc_last (j := 0) (g := line_16) hx hb hK hP hD hS 11 1 rfl rfl (by decide) (by decide) dX7_findLine_141 e_line_16 (fun H locs hP hD hS => ?_)
                have hP : va_P (dC, dI) vwCl (mW cI cJ h a forms prime turns lineT lineU kinds upper lower numbers q base least table rows lists listSize tried other line_16 makers touches made kindForm kindTurns kindWays) H := hP
                have hD : va_D A (mW cI cJ h a forms prime turns lineT lineU kinds upper lower numbers q base least table rows lists listSize tried other line_16 makers touches made kindForm kindTurns kindWays) := hD
                refine lv_aload_n hx hb dX7_findLine_142 rfl (lv_at hl 2 rfl) ?_
                refine va_get (D := (dC, dI)) (ci := 5) (v := .ref (a 11)) (C := RX7) (T := TX7) (N := 25) hx hb hts hinX7 hown hK hP 0 rfl rfl 13 (by decide) hf_45 (fun _ h9 => h9) rfl dX7_findLine_143 ?_
                refine lv_iconst (v := 1) hx hb dX7_findLine_146 (by decide) ?_
                refine lv_lload hx hb dX7_findLine_147 (lv_at hl 5 rfl) ?_
                obtain ⟨line_17, e_line_17, hF⟩ := nm_ex hF
                refine kc_last (j := 1) (g := line_17) hx hb hK hP hD hS 11 1 rfl rfl (by decide) (by decide) dX7_findLine_149 e_line_17 (fun H locs hP hD hS => ?_)
                have hP : va_P (dC, dI) vwCl (mW cI cJ h a forms prime turns lineT lineU kinds upper lower numbers q base least table rows lists listSize tried other line_17 makers touches made kindForm kindTurns kindWays) H := hP
                have hD : va_D A (mW cI cJ h a forms prime turns lineT lineU kinds upper lower numbers q base least table rows lists listSize tried other line_17 makers touches made kindForm kindTurns kindWays) := hD
                refine lv_aload_n hx hb dX7_findLine_150 rfl (lv_at hl 2 rfl) ?_
                refine va_get (D := (dC, dI)) (ci := 5) (v := .ref (a 11)) (C := RX7) (T := TX7) (N := 25) hx hb hts hinX7 hown hK hP 0 rfl rfl 13 (by decide) hf_45 (fun _ h9 => h9) rfl dX7_findLine_151 ?_
                refine lv_iconst (v := 2) hx hb dX7_findLine_154 (by decide) ?_
                refine lv_lload hx hb dX7_findLine_155 (lv_at hl 6 rfl) ?_
                obtain ⟨line_18, e_line_18, hF⟩ := nm_ex hF
                refine kc_last (j := 2) (g := line_18) hx hb hK hP hD hS 11 1 rfl rfl (by decide) (by decide) dX7_findLine_157 e_line_18 (fun H locs hP hD hS => ?_)
                have hP : va_P (dC, dI) vwCl (mW cI cJ h a forms prime turns lineT lineU kinds upper lower numbers q base least table rows lists listSize tried other line_18 makers touches made kindForm kindTurns kindWays) H := hP
                have hD : va_D A (mW cI cJ h a forms prime turns lineT lineU kinds upper lower numbers q base least table rows lists listSize tried other line_18 makers touches made kindForm kindTurns kindWays) := hD
                exact hk158 x2_15 s_14 line_18 H locs ls hP hD hS (lv_sub hl [2, 0, 3, 1] rfl) hF
              clear e_k129
              refine lv_if_ne (tgt := 128) hx hb dX7_findLine_121 (by decide) (fun c0 => ?_) (fun c0 => ?_)
              · have hF := if_f hF c0
                refine lv_iconst (v := 0) hx hb dX7_findLine_128 (by decide) ?_
                exact hk129 (0 : Int32) H locs ls hP hD hS (lv_sub hl [1, 2, 3, 5, 6, 7] rfl) hF
              · have hF := if_t hF c0
                refine lv_iconst (v := 1) hx hb dX7_findLine_124 (by decide) ?_
                refine lv_goto (tgt := 129) hx hb dX7_findLine_125 (by decide) ?_
                exact hk129 (1 : Int32) H locs ls hP hD hS (lv_sub hl [1, 2, 3, 5, 6, 7] rfl) hF
        clear e_k92
        obtain ⟨k87, e_k87, hF⟩ := nm_ex hF
        have hk87 : ∀  (H : Heap) (locs : List Loc) (ls : Array Slot), va_P (dC, dI) vwCl (mW cI cJ h a forms prime turns lineT lineU kinds upper lower numbers q base least table rows lists listSize tried other line_4 makers touches made kindForm kindTurns kindWays) H → va_D A (mW cI cJ h a forms prime turns lineT lineU kinds upper lower numbers q base least table rows lists listSize tried other line_4 makers touches made kindForm kindTurns kindWays) → va_S A s.heap H locs → lv_has ls 12 [(0, .ref h), (2, .int x2_1), (3, .int x3_5), (4, .int x4_3), (5, .long x5_7), (7, .long x7_9), (9, .long x9_10)] → k87 = some (o_lineT, o_lineU, o_line) → W p l e rmX7_findLine s m ([.ref h, .int p0] : List Value).toArray below meth c H locs 0 0 Q (F0 m 87 ls []) := by
          intro H locs ls hP hD hS hl hF
          have hF := ka0 e_k87 hF
          refine lv_iconst (v := 1) hx hb dX7_findLine_87 (by decide) ?_
          refine lv_goto (tgt := 92) hx hb dX7_findLine_88 (by decide) ?_
          exact hk92 (1 : Int32) H locs ls hP hD hS (lv_sub hl [0, 1, 2, 3, 4, 5, 6] rfl) hF
        clear e_k87
        refine lv_if_eq (tgt := 87) hx hb dX7_findLine_56 (by decide) (fun c0 => ?_) (fun c0 => ?_)
        · have c0 := (lg_cmp_eq _ _).mp c0
          have hF := if_t hF c0
          exact hk87 H locs ls hP hD hS (lv_sub hl [4, 5, 3, 6, 2, 1, 0] rfl) hF
        · have c0 := (not_congr (lg_cmp_eq _ _)).mp c0
          have hF := if_f hF c0
          refine lv_lload hx hb dX7_findLine_59 (lv_at hl 2 rfl) ?_
          refine lv_lconst (v := 0) hx hb dX7_findLine_61 (by decide) ?_
          refine W.lcmp hx hb dX7_findLine_62 ?_
          obtain ⟨k91, e_k91, hF⟩ := nm_ex hF
          have hk91 : ∀  (H : Heap) (locs : List Loc) (ls : Array Slot), va_P (dC, dI) vwCl (mW cI cJ h a forms prime turns lineT lineU kinds upper lower numbers q base least table rows lists listSize tried other line_4 makers touches made kindForm kindTurns kindWays) H → va_D A (mW cI cJ h a forms prime turns lineT lineU kinds upper lower numbers q base least table rows lists listSize tried other line_4 makers touches made kindForm kindTurns kindWays) → va_S A s.heap H locs → lv_has ls 12 [(0, .ref h), (2, .int x2_1), (3, .int x3_5), (4, .int x4_3), (5, .long x5_7), (7, .long x7_9), (9, .long x9_10)] → k91 = some (o_lineT, o_lineU, o_line) → W p l e rmX7_findLine s m ([.ref h, .int p0] : List Value).toArray below meth c H locs 0 0 Q (F0 m 91 ls []) := by
            intro H locs ls hP hD hS hl hF
            have hF := ka0 e_k91 hF
            refine lv_iconst (v := 0) hx hb dX7_findLine_91 (by decide) ?_
            exact hk92 (0 : Int32) H locs ls hP hD hS (lv_sub hl [0, 1, 2, 3, 4, 5, 6] rfl) hF
          clear e_k91
          refine lv_if_ne (tgt := 91) hx hb dX7_findLine_63 (by decide) (fun c0 => ?_) (fun c0 => ?_)
          · have c0 := (not_congr (lg_cmp_eq _ _)).mp c0
            have hF := if_f hF c0
            exact hk91 H locs ls hP hD hS (lv_sub hl [4, 5, 3, 6, 2, 1, 0] rfl) hF
          · have c0 := (lg_cmp_eq _ _).mp c0
            have hF := if_t hF c0
            refine lv_lload hx hb dX7_findLine_66 (lv_at hl 1 rfl) ?_
            refine lv_lconst (v := 1) hx hb dX7_findLine_68 (by decide) ?_
            refine W.lcmp hx hb dX7_findLine_69 ?_
            refine lv_if_eq (tgt := 87) hx hb dX7_findLine_70 (by decide) (fun c0 => ?_) (fun c0 => ?_)
            · have c0 := (lg_cmp_eq _ _).mp c0
              have hF := if_t hF c0
              exact hk87 H locs ls hP hD hS (lv_sub hl [4, 5, 3, 6, 2, 1, 0] rfl) hF
            · have c0 := (not_congr (lg_cmp_eq _ _)).mp c0
              have hF := if_f hF c0
              refine lv_lload hx hb dX7_findLine_73 (lv_at hl 1 rfl) ?_
              refine lv_lconst (v := 0) hx hb dX7_findLine_75 (by decide) ?_
              refine W.lcmp hx hb dX7_findLine_76 ?_
              refine lv_if_ne (tgt := 91) hx hb dX7_findLine_77 (by decide) (fun c0 => ?_) (fun c0 => ?_)
              · have c0 := (not_congr (lg_cmp_eq _ _)).mp c0
                have hF := if_f hF c0
                exact hk91 H locs ls hP hD hS (lv_sub hl [4, 5, 3, 6, 2, 1, 0] rfl) hF
              · have c0 := (lg_cmp_eq _ _).mp c0
                have hF := if_t hF c0
                refine lv_lload hx hb dX7_findLine_80 (lv_at hl 0 rfl) ?_
                refine lv_lconst (v := 1) hx hb dX7_findLine_82 (by decide) ?_
                refine W.lcmp hx hb dX7_findLine_83 ?_
                refine lv_if_ne (tgt := 91) hx hb dX7_findLine_84 (by decide) (fun c0 => ?_) (fun c0 => ?_)
                · have c0 := (not_congr (lg_cmp_eq _ _)).mp c0
                  have hF := if_f hF c0
                  exact hk91 H locs ls hP hD hS (lv_sub hl [4, 5, 3, 6, 2, 1, 0] rfl) hF
                · have c0 := (lg_cmp_eq _ _).mp c0
                  have hF := if_t hF c0
                  exact hk87 H locs ls hP hD hS (lv_sub hl [4, 5, 3, 6, 2, 1, 0] rfl) hF
  exact hL7 fu p0 (0 : Int32) (0 : Int32) line H locs ls hP hD hS (lv_sub hl [3, 2, 1, 0] rfl) hF
