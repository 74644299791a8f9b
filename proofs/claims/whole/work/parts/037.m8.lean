def fX7_line (fu : Nat) (forms : Int32) (prime : Int32) (lineT : Int32) (lineU : Int32) (numbers : Nat → Int32) (q : Nat → Int64) (line : Nat → Int64) (p0 : Int32) (p1 : Int32) (p2 : Int32) : Option (Int32 × (Int32) × (Int32) × (Nat → Int64) × (Nat → Int64)) :=
  bd1 (fX7_isForm forms p0) (fun (r_1 : Int32) => if r_1 = 0 then (some ((-100001 : Int32), lineT, lineU, q, line)) else (bd1 (fX7_in p1.toInt64 (0 : Int64) prime.toInt64) (fun (r_2 : Int32) => nm (some ((-100002 : Int32), lineT, lineU, q, line)) (fun (k37 : Option (Int32 × (Int32) × (Int32) × (Nat → Int64) × (Nat → Int64))) => if r_2 = 0 then ((k37)) else (bd1 (fX7_in p2.toInt64 (0 : Int64) (4 : Int64)) (fun (r_3 : Int32) => if r_3 = 0 then ((k37)) else (bd1 (fX7_hold fu numbers q p0) (fun (q_4 : Nat → Int64) => bd1 (fX7_divides prime q_4) (fun (r_5 : Int32) => if r_5 = 0 then (bd3 (fX7_findLine fu prime q_4 line p1) (fun (lineT_6 : Int32) (lineU_7 : Int32) (line_8 : Nat → Int64) => nm (fun (s_9 : Int32) => some (s_9, lineT_6, lineU_7, q_4, line_8)) (fun (k91 : (Int32) → Option (Int32 × (Int32) × (Int32) × (Nat → Int64) × (Nat → Int64))) => if (3 : Int32) ≤ p2 then (if p2 = (3 : Int32) then ((k91 lineT_6)) else ((k91 lineU_7))) else (if okI p2 3 then (k91 (line_8 p2.toNatClampNeg).toInt32) else none)))) else (some ((-100003 : Int32), lineT, lineU, q_4, line)))))))))))
def lkX7_line : List Cond := [.constantLong RX7 70 (4), .constant RX7 171 (-100003), .constant RX7 157 (-100002), .constant RX7 170 (-100001), .fieldLink RX7 13 "KinFormsModel" "prime" "I", .fieldLink RX7 193 "KinFormsModel" "lineU" "I", .fieldLink RX7 196 "KinFormsModel" "lineT" "I", .fieldLink RX7 45 "KinFormsModel" "line" "[J"]
def vX7_line : List Cond := .code yX7_line cX7_line 4 (some .int) :: (lkX7_line ++ (wsX70 ++ (wsV RX7 166 RX7 yX7_isForm vX7_isForm ++ (va_wsS RX7 147 yX7_in vX7_in ++ (wsV RX7 138 RX7 yX7_hold vX7_hold ++ (wsV RX7 212 RX7 yX7_divides vX7_divides ++ (wsV RX7 206 RX7 yX7_findLine vX7_findLine ++ ([]))))))))
theorem q_X7_line : ∀ w ∈ vX7_line, goodWord w = true := gd_cons rfl (gd_app (by decide +kernel) (gd_app q_wsX70 (gd_app (gd_V q_X7_isForm) (gd_app (gd_S q_X7_in) (gd_app (gd_V q_X7_hold) (gd_app (gd_V q_X7_divides) (gd_app (gd_V q_X7_findLine) gd_nil)))))))
theorem g_X7_line_X7_isForm : GoodIn vX7_line (wsV RX7 166 RX7 yX7_isForm vX7_isForm) := gi_of (fun w h => List.mem_cons_of_mem _ (List.mem_append_right _ (List.mem_append_right _ (List.mem_append_left _ h)))) (gd_V q_X7_isForm)
theorem g_X7_line_X7_in : GoodIn vX7_line (va_wsS RX7 147 yX7_in vX7_in) := gi_of (fun w h => List.mem_cons_of_mem _ (List.mem_append_right _ (List.mem_append_right _ (List.mem_append_right _ (List.mem_append_left _ h))))) (gd_S q_X7_in)
theorem g_X7_line_X7_hold : GoodIn vX7_line (wsV RX7 138 RX7 yX7_hold vX7_hold) := gi_of (fun w h => List.mem_cons_of_mem _ (List.mem_append_right _ (List.mem_append_right _ (List.mem_append_right _ (List.mem_append_right _ (List.mem_append_left _ h)))))) (gd_V q_X7_hold)
theorem g_X7_line_X7_divides : GoodIn vX7_line (wsV RX7 212 RX7 yX7_divides vX7_divides) := gi_of (fun w h => List.mem_cons_of_mem _ (List.mem_append_right _ (List.mem_append_right _ (List.mem_append_right _ (List.mem_append_right _ (List.mem_append_right _ (List.mem_append_left _ h))))))) (gd_V q_X7_divides)
theorem g_X7_line_X7_findLine : GoodIn vX7_line (wsV RX7 206 RX7 yX7_findLine vX7_findLine) := gi_of (fun w h => List.mem_cons_of_mem _ (List.mem_append_right _ (List.mem_append_right _ (List.mem_append_right _ (List.mem_append_right _ (List.mem_append_right _ (List.mem_append_right _ (List.mem_append_left _ h)))))))) (gd_V q_X7_findLine)
abbrev rmX7_line : Room := { frames := 3, cells := 0, slots := 0, locals := 89 }
set_option maxHeartbeats 4000000 in
set_option maxRecDepth 100000 in
theorem c_X7_line (l : Launch) (dC : Nat → ClassId) (dI : Nat → Nat → Nat) (cI : ClassId) (cJ : ClassId) (h : Nat) (a : Nat → Nat) (fu : Nat) (sz : Nat) (forms : Int32) (prime : Int32) (turns : Int32) (lineT : Int32) (lineU : Int32) (kinds : Int32) (upper : Int64) (lower : Int64) (numbers : Nat → Int32) (q : Nat → Int64) (base : Nat → Int64) (least : Nat → Int64) (table : Nat → Int64) (rows : Nat → Int64) (lists : Nat → Int64) (listSize : Nat → Int32) (tried : Nat → Int64) (other : Nat → Int64) (line : Nat → Int64) (makers : Nat → Int64) (touches : Nat → Int64) (made : Nat → Int64) (kindForm : Nat → Int64) (kindTurns : Nat → Int32) (kindWays : Nat → Int32) (p0 : Int32) (p1 : Int32) (p2 : Int32) (ro : Int32) (o_lineT : Int32) (o_lineU : Int32) (o_q : Nat → Int64) (o_line : Nat → Int64) (hF : fX7_line fu forms prime lineT lineU numbers q line p0 p1 p2 = some (ro, o_lineT, o_lineU, o_q, o_line)) : Met l yX7_line vX7_line rmX7_line (va_Pc [.ref h, .int p0, .int p1, .int p2] (mPc (dC, dI) vwCl (mW cI cJ h a forms prime turns lineT lineU kinds upper lower numbers q base least table rows lists listSize tried other line makers touches made kindForm kindTurns kindWays) [(cI, .int), (cJ, .long)] sz)) (va_Qi (fun x (_ : Unit) => x = ro) (mPo (dC, dI) vwCl (mW cI cJ h a forms prime turns o_lineT o_lineU kinds upper lower numbers o_q base least table rows lists listSize tried other o_line makers touches made kindForm kindTurns kindWays) [(cI, .int), (cJ, .long)] (va_A (mW cI cJ h a forms prime turns lineT lineU kinds upper lower numbers q base least table rows lists listSize tried other line makers touches made kindForm kindTurns kindWays) sz)) (va_A (mW cI cJ h a forms prime turns lineT lineU kinds upper lower numbers q base least table rows lists listSize tried other line makers touches made kindForm kindTurns kindWays) sz)) 0 0 (va_A (mW cI cJ h a forms prime turns lineT lineU kinds upper lower numbers q base least table rows lists listSize tried other line makers touches made kindForm kindTurns kindWays) sz) := by
  refine Met.ofW (cc := cX7_line) (maxL := 4) (ret := (some .int)) (by decide) rfl ?_
  intro p e s m args below meth c s₁ B hml hv
  obtain ⟨rfl, hsz, hP, hK, hD0⟩ := hv
  have hx := B.exec
  have hb := B.bytes
  have hr := B.returns
  have hts := atoms_spec (ws := vX7_line) B.pre
  have hlk : ∀ w ∈ lkX7_line, w.before _ s = true := fun w h => hts w (List.mem_cons_of_mem _ (List.mem_append_left _ h))
  have hown : s.vm.findClass RX7 = some m.cls := findClass_of_methodNamed B.named
  have hlocks := B.notSynchronized
  subst hsz
  have hD := hD0.self (sz := s.heap.size)
  generalize hAe : va_A (mW cI cJ h a forms prime turns lineT lineU kinds upper lower numbers q base least table rows lists listSize tried other line makers touches made kindForm kindTurns kindWays) s.heap.size = A at hD ⊢
  have hA : ∀ q : Nat, s.heap.size ≤ q → A q := fun q h => by rw [← hAe]; exact Or.inr h
  have hS : va_S A s.heap s.heap [] := va_S.rf
  have hinX7 : ∀ w ∈ wsX70, w ∈ vX7_line := fun w h => List.mem_cons_of_mem _ (List.mem_append_right _ (List.mem_append_left _ h))
  have hf_13 := hlk (.fieldLink RX7 13 "KinFormsModel" "prime" "I") (by decide +kernel)
  have hf_193 := hlk (.fieldLink RX7 193 "KinFormsModel" "lineU" "I") (by decide +kernel)
  have hf_196 := hlk (.fieldLink RX7 196 "KinFormsModel" "lineT" "I") (by decide +kernel)
  have hf_45 := hlk (.fieldLink RX7 45 "KinFormsModel" "line" "[J") (by decide +kernel)
  have hl := lv_entry ([.ref h, .int p0, .int p1, .int p2] : List Value) (n := 4) (Nat.le_of_ble_eq_true rfl)
  rw [lg_entry_eq]
  generalize (lg_sl ([.ref h, .int p0, .int p1, .int p2] : List Value) ++ List.replicate (4 - (lg_sl ([.ref h, .int p0, .int p1, .int p2] : List Value)).length) Slot.unset).toArray = ls at hl ⊢
  have hl : lv_has ls 4 [(0, .ref h), (1, .int p0), (2, .int p1), (3, .int p2)] := hl
  unfold fX7_line at hF
  refine W_Q (fun Q hQ => ?_)
  have hP : va_P (dC, dI) vwCl (mW cI cJ h a forms prime turns lineT lineU kinds upper lower numbers q base least table rows lists listSize tried other line makers touches made kindForm kindTurns kindWays) s.heap := hP
  refine W_HL (fun H locs eH eL => ?_)
  rw [← eH] at hP
  have hS : va_S A s.heap H locs := by rw [eH, eL]; exact hS
  refine lv_aload_n hx hb dX7_line_0 rfl (lv_at hl 0 rfl) ?_
  refine lv_iload_n hx hb dX7_line_1 rfl (lv_at hl 1 rfl) ?_
  obtain ⟨r_1, hc, hF⟩ := bd1_of hF
  refine rc_i (va_runV (As := [.int p0]) (rest := []) ⟨hx, hb, hml, hown, hts⟩ (c_X7_isForm l dC dI cI cJ h a forms prime turns lineT lineU kinds upper lower numbers q base least table rows lists listSize tried other line makers touches made kindForm kindTurns kindWays p0 r_1 hc) (cwV 1 hts g_X7_line_X7_isForm rfl rfl rfl (by decide +kernel) ⟨Nat.le_of_ble_eq_true rfl, Nat.le_of_ble_eq_true rfl⟩) ⟨rPc_blind, va_recv hK hP (ci := 5) (q0 := 0) rfl rfl, rPc_at hK hP⟩ rfl rfl hl.1 rfl (lv_room (Nat.le_of_ble_eq_true rfl)) dX7_line_2 ⟨Nat.zero_le _, Nat.zero_le _⟩) ?_
  refine lv_if_ne (tgt := 11) hx hb dX7_line_5 (by decide) (fun c0 => ?_) (fun c0 => ?_)
  · have hF := if_f hF c0
    refine lv_iload_n hx hb dX7_line_11 rfl (lv_at hl 2 rfl) ?_
    refine lv_i2l (v := p1.toInt64) hx hb dX7_line_12 rfl ?_
    refine lv_lconst (v := 0) hx hb dX7_line_13 (by decide) ?_
    refine lv_aload_n hx hb dX7_line_14 rfl (lv_at hl 0 rfl) ?_
    refine va_get (D := (dC, dI)) (ci := 5) (v := .int prime) (C := RX7) (T := TX7) (N := 25) hx hb hts hinX7 hown hK hP 0 rfl rfl 2 (by decide) hf_13 (fun _ h9 => h9) rfl dX7_line_15 ?_
    refine lv_i2l (v := prime.toInt64) hx hb dX7_line_18 rfl ?_
    obtain ⟨r_2, hc, hF⟩ := bd1_of hF
    refine rc_i (va_runS (As := [.long p1.toInt64, .long (0 : Int64), .long prime.toInt64]) (rest := []) ⟨hx, hb, hml, hown, hts⟩ (c_X7_in l p1.toInt64 (0 : Int64) prime.toInt64 r_2 hc) (va_cwS 3 hts g_X7_line_X7_in rfl rfl rfl (by decide +kernel) ⟨Nat.le_of_ble_eq_true rfl, Nat.le_of_ble_eq_true rfl⟩) ⟨tPc_blind, tPc_at⟩ rfl rfl hl.1 rfl (lv_room (Nat.le_of_ble_eq_true rfl)) dX7_line_19 ⟨Nat.zero_le _, Nat.zero_le _⟩) ?_
    obtain ⟨k37, e_k37, hF⟩ := nm_ex hF
    have hk37 : ∀  (H : Heap) (locs : List Loc) (ls : Array Slot), va_P (dC, dI) vwCl (mW cI cJ h a forms prime turns lineT lineU kinds upper lower numbers q base least table rows lists listSize tried other line makers touches made kindForm kindTurns kindWays) H → va_D A (mW cI cJ h a forms prime turns lineT lineU kinds upper lower numbers q base least table rows lists listSize tried other line makers touches made kindForm kindTurns kindWays) → va_S A s.heap H locs → lv_has ls 4 [] → k37 = some (ro, o_lineT, o_lineU, o_q, o_line) → W p l e rmX7_line s m ([.ref h, .int p0, .int p1, .int p2] : List Value).toArray below meth c H locs 0 0 Q (F0 m 37 ls []) := by
      intro H locs ls hP hD hS hl hF
      have hF := ka0 e_k37 hF
      refine lv_ldc (v := (-100002)) hx hb hown (hlk (.constant RX7 157 (-100002)) (by decide +kernel)) dX7_line_37 ?_
      obtain ⟨q0, q1, q2, q3, q4⟩ := sm5 hF
      have hP : va_P (dC, dI) vwCl (mW cI cJ h a forms prime turns o_lineT o_lineU kinds upper lower numbers o_q base least table rows lists listSize tried other o_line makers touches made kindForm kindTurns kindWays) H := by rw [← q1, ← q2, ← q3, ← q4]; exact hP
      have hD : va_D A (mW cI cJ h a forms prime turns o_lineT o_lineU kinds upper lower numbers o_q base least table rows lists listSize tried other o_line makers touches made kindForm kindTurns kindWays) := by rw [← q1, ← q2, ← q3, ← q4]; exact hD
      refine W_Qe hQ ?_
      exact W.iret hx hb hr (fun t ht hW => ⟨⟨(-100002 : Int32), (), rfl, q0, by rw [ht]; exact hP, va_K.moved hW.alike hK, hD⟩, hS.F ht⟩) hS.2.2 dX7_line_39
    clear e_k37
    refine lv_if_eq (tgt := 37) hx hb dX7_line_22 (by decide) (fun c0 => ?_) (fun c0 => ?_)
    · have hF := if_t hF c0
      exact hk37 H locs ls hP hD hS (lv_sub hl [] rfl) hF
    · have hF := if_f hF c0
      refine lv_iload_n hx hb dX7_line_25 rfl (lv_at hl 3 rfl) ?_
      refine lv_i2l (v := p2.toInt64) hx hb dX7_line_26 rfl ?_
      refine lv_lconst (v := 0) hx hb dX7_line_27 (by decide) ?_
      refine lv_ldc2 (v := (4)) hx hb hown (hlk (.constantLong RX7 70 (4)) (by decide +kernel)) dX7_line_28 ?_
      obtain ⟨r_3, hc, hF⟩ := bd1_of hF
      refine rc_i (va_runS (As := [.long p2.toInt64, .long (0 : Int64), .long (4 : Int64)]) (rest := []) ⟨hx, hb, hml, hown, hts⟩ (c_X7_in l p2.toInt64 (0 : Int64) (4 : Int64) r_3 hc) (va_cwS 3 hts g_X7_line_X7_in rfl rfl rfl (by decide +kernel) ⟨Nat.le_of_ble_eq_true rfl, Nat.le_of_ble_eq_true rfl⟩) ⟨tPc_blind, tPc_at⟩ rfl rfl hl.1 rfl (lv_room (Nat.le_of_ble_eq_true rfl)) dX7_line_31 ⟨Nat.zero_le _, Nat.zero_le _⟩) ?_
      refine lv_if_ne (tgt := 40) hx hb dX7_line_34 (by decide) (fun c0 => ?_) (fun c0 => ?_)
      · have hF := if_f hF c0
        refine lv_aload_n hx hb dX7_line_40 rfl (lv_at hl 0 rfl) ?_
        refine lv_iload_n hx hb dX7_line_41 rfl (lv_at hl 1 rfl) ?_
        obtain ⟨q_4, hc, hF⟩ := bd1_of hF
        refine mc_v (va_runV (As := [.int p0]) (rest := []) ⟨hx, hb, hml, hown, hts⟩ (c_X7_hold l dC dI cI cJ h a fu H.size forms prime turns lineT lineU kinds upper lower numbers q base least table rows lists listSize tried other line makers touches made kindForm kindTurns kindWays p0 q_4 hc) (cwV 1 hts g_X7_line_X7_hold rfl rfl rfl (by decide +kernel) ⟨Nat.le_of_ble_eq_true rfl, Nat.le_of_ble_eq_true rfl⟩) ⟨mPc_blind, va_recv hK hP (ci := 5) (q0 := 0) rfl rfl, mPc_at hK hP hD⟩ rfl rfl hl.1 rfl (lv_room (Nat.le_of_ble_eq_true rfl)) dX7_line_42 ⟨Nat.zero_le _, Nat.zero_le _⟩) hS (fr_all hD hS hA) (fun H locs hP hD hS => ?_)
        refine lv_aload_n hx hb dX7_line_45 rfl (lv_at hl 0 rfl) ?_
        obtain ⟨r_5, hc, hF⟩ := bd1_of hF
        refine rc_i (va_runV (As := []) (rest := []) ⟨hx, hb, hml, hown, hts⟩ (c_X7_divides l dC dI cI cJ h a forms prime turns lineT lineU kinds upper lower numbers q_4 base least table rows lists listSize tried other line makers touches made kindForm kindTurns kindWays  r_5 hc) (cwV 0 hts g_X7_line_X7_divides rfl rfl rfl (by decide +kernel) ⟨Nat.le_of_ble_eq_true rfl, Nat.le_of_ble_eq_true rfl⟩) ⟨rPc_blind, va_recv hK hP (ci := 5) (q0 := 0) rfl rfl, rPc_at hK hP⟩ rfl rfl hl.1 rfl (lv_room (Nat.le_of_ble_eq_true rfl)) dX7_line_46 ⟨Nat.zero_le _, Nat.zero_le _⟩) ?_
        refine lv_if_eq (tgt := 55) hx hb dX7_line_49 (by decide) (fun c0 => ?_) (fun c0 => ?_)
        · have hF := if_t hF c0
          refine lv_aload_n hx hb dX7_line_55 rfl (lv_at hl 0 rfl) ?_
          refine lv_iload_n hx hb dX7_line_56 rfl (lv_at hl 2 rfl) ?_
          obtain ⟨lineT_6, lineU_7, line_8, hc, hF⟩ := bd3_of hF
          refine mc_v (va_runV (As := [.int p1]) (rest := []) ⟨hx, hb, hml, hown, hts⟩ (c_X7_findLine l dC dI cI cJ h a fu H.size forms prime turns lineT lineU kinds upper lower numbers q_4 base least table rows lists listSize tried other line makers touches made kindForm kindTurns kindWays p1 lineT_6 lineU_7 line_8 hc) (cwV 1 hts g_X7_line_X7_findLine rfl rfl rfl (by decide +kernel) ⟨Nat.le_of_ble_eq_true rfl, Nat.le_of_ble_eq_true rfl⟩) ⟨mPc_blind, va_recv hK hP (ci := 5) (q0 := 0) rfl rfl, mPc_at hK hP hD⟩ rfl rfl hl.1 rfl (lv_room (Nat.le_of_ble_eq_true rfl)) dX7_line_57 ⟨Nat.zero_le _, Nat.zero_le _⟩) hS (fr_all hD hS hA) (fun H locs hP hD hS => ?_)
          refine lv_iload_n hx hb dX7_line_60 rfl (lv_at hl 3 rfl) ?_
          refine lv_iconst (v := 3) hx hb dX7_line_61 (by decide) ?_
          obtain ⟨k91, e_k91, hF⟩ := nm_ex hF
          have hk91 : ∀ (s_9 : Int32) (H : Heap) (locs : List Loc) (ls : Array Slot), va_P (dC, dI) vwCl (mW cI cJ h a forms prime turns lineT_6 lineU_7 kinds upper lower numbers q_4 base least table rows lists listSize tried other line_8 makers touches made kindForm kindTurns kindWays) H → va_D A (mW cI cJ h a forms prime turns lineT_6 lineU_7 kinds upper lower numbers q_4 base least table rows lists listSize tried other line_8 makers touches made kindForm kindTurns kindWays) → va_S A s.heap H locs → lv_has ls 4 [] → k91 s_9 = some (ro, o_lineT, o_lineU, o_q, o_line) → W p l e rmX7_line s m ([.ref h, .int p0, .int p1, .int p2] : List Value).toArray below meth c H locs 0 0 Q (F0 m 91 ls [.int s_9]) := by
            intro s_9 H locs ls hP hD hS hl hF
            have hF := ka1 e_k91 hF
            obtain ⟨q0, q1, q2, q3, q4⟩ := sm5 hF
            have hP : va_P (dC, dI) vwCl (mW cI cJ h a forms prime turns o_lineT o_lineU kinds upper lower numbers o_q base least table rows lists listSize tried other o_line makers touches made kindForm kindTurns kindWays) H := by rw [← q1, ← q2, ← q3, ← q4]; exact hP
            have hD : va_D A (mW cI cJ h a forms prime turns o_lineT o_lineU kinds upper lower numbers o_q base least table rows lists listSize tried other o_line makers touches made kindForm kindTurns kindWays) := by rw [← q1, ← q2, ← q3, ← q4]; exact hD
            refine W_Qe hQ ?_
            exact W.iret hx hb hr (fun t ht hW => ⟨⟨s_9, (), rfl, q0, by rw [ht]; exact hP, va_K.moved hW.alike hK, hD⟩, hS.F ht⟩) hS.2.2 dX7_line_91
          clear e_k91
          refine lv_icmp_ge (tgt := 75) hx hb dX7_line_62 (by decide) (fun c0 => ?_) (fun c0 => ?_)
          · have hF := if_t hF c0
            refine lv_iload_n hx hb dX7_line_75 rfl (lv_at hl 3 rfl) ?_
            refine lv_iconst (v := 3) hx hb dX7_line_76 (by decide) ?_
            refine lv_icmp_ne (tgt := 87) hx hb dX7_line_77 (by decide) (fun c0 => ?_) (fun c0 => ?_)
            · have hF := if_f hF c0
              refine lv_aload_n hx hb dX7_line_87 rfl (lv_at hl 0 rfl) ?_
              refine va_get (D := (dC, dI)) (ci := 5) (v := .int lineU_7) (C := RX7) (T := TX7) (N := 25) hx hb hts hinX7 hown hK hP 0 rfl rfl 15 (by decide) hf_193 (fun _ h9 => h9) rfl dX7_line_88 ?_
              exact hk91 lineU_7 H locs ls hP hD hS (lv_sub hl [] rfl) hF
            · have hF := if_t hF c0
              refine lv_aload_n hx hb dX7_line_80 rfl (lv_at hl 0 rfl) ?_
              refine va_get (D := (dC, dI)) (ci := 5) (v := .int lineT_6) (C := RX7) (T := TX7) (N := 25) hx hb hts hinX7 hown hK hP 0 rfl rfl 14 (by decide) hf_196 (fun _ h9 => h9) rfl dX7_line_81 ?_
              refine lv_goto (tgt := 91) hx hb dX7_line_84 (by decide) ?_
              exact hk91 lineT_6 H locs ls hP hD hS (lv_sub hl [] rfl) hF
          · have hF := if_f hF c0
            refine lv_aload_n hx hb dX7_line_65 rfl (lv_at hl 0 rfl) ?_
            refine va_get (D := (dC, dI)) (ci := 5) (v := .ref (a 11)) (C := RX7) (T := TX7) (N := 25) hx hb hts hinX7 hown hK hP 0 rfl rfl 13 (by decide) hf_45 (fun _ h9 => h9) rfl dX7_line_66 ?_
            refine lv_iload_n hx hb dX7_line_69 rfl (lv_at hl 3 rfl) ?_
            obtain ⟨hi, hF⟩ := ck_of hF
            refine va_lald hx hb hK hP 11 1 rfl rfl hi dX7_line_70 ?_
            refine lv_l2i (v := (line_8 p2.toNatClampNeg).toInt32) hx hb dX7_line_71 rfl ?_
            refine lv_goto (tgt := 91) hx hb dX7_line_72 (by decide) ?_
            exact hk91 (line_8 p2.toNatClampNeg).toInt32 H locs ls hP hD hS (lv_sub hl [] rfl) hF
        · have hF := if_f hF c0
          refine lv_ldc (v := (-100003)) hx hb hown (hlk (.constant RX7 171 (-100003)) (by decide +kernel)) dX7_line_52 ?_
          obtain ⟨q0, q1, q2, q3, q4⟩ := sm5 hF
          have hP : va_P (dC, dI) vwCl (mW cI cJ h a forms prime turns o_lineT o_lineU kinds upper lower numbers o_q base least table rows lists listSize tried other o_line makers touches made kindForm kindTurns kindWays) H := by rw [← q1, ← q2, ← q3, ← q4]; exact hP
          have hD : va_D A (mW cI cJ h a forms prime turns o_lineT o_lineU kinds upper lower numbers o_q base least table rows lists listSize tried other o_line makers touches made kindForm kindTurns kindWays) := by rw [← q1, ← q2, ← q3, ← q4]; exact hD
          refine W_Qe hQ ?_
          exact W.iret hx hb hr (fun t ht hW => ⟨⟨(-100003 : Int32), (), rfl, q0, by rw [ht]; exact hP, va_K.moved hW.alike hK, hD⟩, hS.F ht⟩) hS.2.2 dX7_line_54
      · have hF := if_t hF c0
        exact hk37 H locs ls hP hD hS (lv_sub hl [] rfl) hF
  · have hF := if_t hF c0
    refine lv_ldc (v := (-100001)) hx hb hown (hlk (.constant RX7 170 (-100001)) (by decide +kernel)) dX7_line_8 ?_
    obtain ⟨q0, q1, q2, q3, q4⟩ := sm5 hF
    have hP : va_P (dC, dI) vwCl (mW cI cJ h a forms prime turns o_lineT o_lineU kinds upper lower numbers o_q base least table rows lists listSize tried other o_line makers touches made kindForm kindTurns kindWays) H := by rw [← q1, ← q2, ← q3, ← q4]; exact hP
    have hD : va_D A (mW cI cJ h a forms prime turns o_lineT o_lineU kinds upper lower numbers o_q base least table rows lists listSize tried other o_line makers touches made kindForm kindTurns kindWays) := by rw [← q1, ← q2, ← q3, ← q4]; exact hD
    refine W_Qe hQ ?_
    exact W.iret hx hb hr (fun t ht hW => ⟨⟨(-100001 : Int32), (), rfl, q0, by rw [ht]; exact hP, va_K.moved hW.alike hK, hD⟩, hS.F ht⟩) hS.2.2 dX7_line_10
def fX7_neighbour (fu : Nat) (forms : Int32) (prime : Int32) (turns : Int32) (lineT : Int32) (lineU : Int32) (numbers : Nat → Int32) (q : Nat → Int64) (base : Nat → Int64) (least : Nat → Int64) (table : Nat → Int64) (rows : Nat → Int64) (lists : Nat → Int64) (listSize : Nat → Int32) (tried : Nat → Int64) (line : Nat → Int64) (makers : Nat → Int64) (touches : Nat → Int64) (made : Nat → Int64) (p0 : Int32) (p1 : Int32) (p2 : Int32) : Option (Int32 × (Int32) × (Int32) × (Int32) × (Nat → Int64) × (Nat → Int64) × (Nat → Int64) × (Nat → Int64) × (Nat → Int64) × (Nat → Int64) × (Nat → Int32) × (Nat → Int64) × (Nat → Int64) × (Nat → Int64) × (Nat → Int64) × (Nat → Int64)) :=
  bd1 (fX7_isForm forms p0) (fun (r_1 : Int32) => if r_1 = 0 then (some ((-100001 : Int32), turns, lineT, lineU, q, base, least, table, rows, lists, listSize, tried, line, makers, touches, made)) else (bd1 (fX7_in p1.toInt64 (0 : Int64) prime.toInt64) (fun (r_2 : Int32) => nm (some ((-100002 : Int32), turns, lineT, lineU, q, base, least, table, rows, lists, listSize, tried, line, makers, touches, made)) (fun (k37 : Option (Int32 × (Int32) × (Int32) × (Int32) × (Nat → Int64) × (Nat → Int64) × (Nat → Int64) × (Nat → Int64) × (Nat → Int64) × (Nat → Int64) × (Nat → Int32) × (Nat → Int64) × (Nat → Int64) × (Nat → Int64) × (Nat → Int64) × (Nat → Int64))) => if r_2 = 0 then ((k37)) else (bd1 (fX7_in p2.toInt64 (0 : Int64) (5 : Int64)) (fun (r_3 : Int32) => if r_3 = 0 then ((k37)) else (bd1 (fX7_hold fu numbers q p0) (fun (q_4 : Nat → Int64) => bd1 (fX7_divides prime q_4) (fun (r_5 : Int32) => if r_5 = 0 then (bd15 (fX7_findNeighbour fu prime q_4 base least table rows lists listSize tried line makers touches made p1) (fun (turns_6 : Int32) (lineT_7 : Int32) (lineU_8 : Int32) (q_9 : Nat → Int64) (base_10 : Nat → Int64) (least_11 : Nat → Int64) (table_12 : Nat → Int64) (rows_13 : Nat → Int64) (lists_14 : Nat → Int64) (listSize_15 : Nat → Int32) (tried_16 : Nat → Int64) (line_17 : Nat → Int64) (makers_18 : Nat → Int64) (touches_19 : Nat → Int64) (made_20 : Nat → Int64) => if okI p2 6 then nm (least_11 p2.toNatClampNeg).toInt32 (fun (v_21 : Int32) => some (v_21, turns_6, lineT_7, lineU_8, q_9, base_10, least_11, table_12, rows_13, lists_14, listSize_15, tried_16, line_17, makers_18, touches_19, made_20)) else none)) else (some ((-100003 : Int32), turns, lineT, lineU, q_4, base, least, table, rows, lists, listSize, tried, line, makers, touches, made)))))))))))
def lkX7_neighbour : List Cond := [.constantLong RX7 216 (5), .constant RX7 171 (-100003), .constant RX7 157 (-100002), .constant RX7 170 (-100001), .fieldLink RX7 13 "KinFormsModel" "prime" "I", .fieldLink RX7 24 "KinFormsModel" "least" "[J"]
def vX7_neighbour : List Cond := .code yX7_neighbour cX7_neighbour 4 (some .int) :: (lkX7_neighbour ++ (wsX70 ++ (wsV RX7 166 RX7 yX7_isForm vX7_isForm ++ (va_wsS RX7 147 yX7_in vX7_in ++ (wsV RX7 138 RX7 yX7_hold vX7_hold ++ (wsV RX7 212 RX7 yX7_divides vX7_divides ++ (wsV RX7 218 RX7 yX7_findNeighbour vX7_findNeighbour ++ ([]))))))))
theorem q_X7_neighbour : ∀ w ∈ vX7_neighbour, goodWord w = true := gd_cons rfl (gd_app (by decide +kernel) (gd_app q_wsX70 (gd_app (gd_V q_X7_isForm) (gd_app (gd_S q_X7_in) (gd_app (gd_V q_X7_hold) (gd_app (gd_V q_X7_divides) (gd_app (gd_V q_X7_findNeighbour) gd_nil)))))))
theorem g_X7_neighbour_X7_isForm : GoodIn vX7_neighbour (wsV RX7 166 RX7 yX7_isForm vX7_isForm) := gi_of (fun w h => List.mem_cons_of_mem _ (List.mem_append_right _ (List.mem_append_right _ (List.mem_append_left _ h)))) (gd_V q_X7_isForm)
theorem g_X7_neighbour_X7_in : GoodIn vX7_neighbour (va_wsS RX7 147 yX7_in vX7_in) := gi_of (fun w h => List.mem_cons_of_mem _ (List.mem_append_right _ (List.mem_append_right _ (List.mem_append_right _ (List.mem_append_left _ h))))) (gd_S q_X7_in)
theorem g_X7_neighbour_X7_hold : GoodIn vX7_neighbour (wsV RX7 138 RX7 yX7_hold vX7_hold) := gi_of (fun w h => List.mem_cons_of_mem _ (List.mem_append_right _ (List.mem_append_right _ (List.mem_append_right _ (List.mem_append_right _ (List.mem_append_left _ h)))))) (gd_V q_X7_hold)
theorem g_X7_neighbour_X7_divides : GoodIn vX7_neighbour (wsV RX7 212 RX7 yX7_divides vX7_divides) := gi_of (fun w h => List.mem_cons_of_mem _ (List.mem_append_right _ (List.mem_append_right _ (List.mem_append_right _ (List.mem_append_right _ (List.mem_append_right _ (List.mem_append_left _ h))))))) (gd_V q_X7_divides)
theorem g_X7_neighbour_X7_findNeighbour : GoodIn vX7_neighbour (wsV RX7 218 RX7 yX7_findNeighbour vX7_findNeighbour) := gi_of (fun w h => List.mem_cons_of_mem _ (List.mem_append_right _ (List.mem_append_right _ (List.mem_append_right _ (List.mem_append_right _ (List.mem_append_right _ (List.mem_append_right _ (List.mem_append_left _ h)))))))) (gd_V q_X7_findNeighbour)
abbrev rmX7_neighbour : Room := { frames := 6, cells := 0, slots := 0, locals := 168 }
set_option maxHeartbeats 4000000 in
set_option maxRecDepth 100000 in
theorem c_X7_neighbour (l : Launch) (dC : Nat → ClassId) (dI : Nat → Nat → Nat) (cI : ClassId) (cJ : ClassId) (h : Nat) (a : Nat → Nat) (fu : Nat) (sz : Nat) (forms : Int32) (prime : Int32) (turns : Int32) (lineT : Int32) (lineU : Int32) (kinds : Int32) (upper : Int64) (lower : Int64) (numbers : Nat → Int32) (q : Nat → Int64) (base : Nat → Int64) (least : Nat → Int64) (table : Nat → Int64) (rows : Nat → Int64) (lists : Nat → Int64) (listSize : Nat → Int32) (tried : Nat → Int64) (other : Nat → Int64) (line : Nat → Int64) (makers : Nat → Int64) (touches : Nat → Int64) (made : Nat → Int64) (kindForm : Nat → Int64) (kindTurns : Nat → Int32) (kindWays : Nat → Int32) (p0 : Int32) (p1 : Int32) (p2 : Int32) (ro : Int32) (o_turns : Int32) (o_lineT : Int32) (o_lineU : Int32) (o_q : Nat → Int64) (o_base : Nat → Int64) (o_least : Nat → Int64) (o_table : Nat → Int64) (o_rows : Nat → Int64) (o_lists : Nat → Int64) (o_listSize : Nat → Int32) (o_tried : Nat → Int64) (o_line : Nat → Int64) (o_makers : Nat → Int64) (o_touches : Nat → Int64) (o_made : Nat → Int64) (hF : fX7_neighbour fu forms prime turns lineT lineU numbers q base least table rows lists listSize tried line makers touches made p0 p1 p2 = some (ro, o_turns, o_lineT, o_lineU, o_q, o_base, o_least, o_table, o_rows, o_lists, o_listSize, o_tried, o_line, o_makers, o_touches, o_made)) : Met l yX7_neighbour vX7_neighbour rmX7_neighbour (va_Pc [.ref h, .int p0, .int p1, .int p2] (mPc (dC, dI) vwCl (mW cI cJ h a forms prime turns lineT lineU kinds upper lower numbers q base least table rows lists listSize tried other line makers touches made kindForm kindTurns kindWays) [(cI, .int), (cJ, .long)] sz)) (va_Qi (fun x (_ : Unit) => x = ro) (mPo (dC, dI) vwCl (mW cI cJ h a forms prime o_turns o_lineT o_lineU kinds upper lower numbers o_q o_base o_least o_table o_rows o_lists o_listSize o_tried other o_line o_makers o_touches o_made kindForm kindTurns kindWays) [(cI, .int), (cJ, .long)] (va_A (mW cI cJ h a forms prime turns lineT lineU kinds upper lower numbers q base least table rows lists listSize tried other line makers touches made kindForm kindTurns kindWays) sz)) (va_A (mW cI cJ h a forms prime turns lineT lineU kinds upper lower numbers q base least table rows lists listSize tried other line makers touches made kindForm kindTurns kindWays) sz)) 0 0 (va_A (mW cI cJ h a forms prime turns lineT lineU kinds upper lower numbers q base least table rows lists listSize tried other line makers touches made kindForm kindTurns kindWays) sz) := by
  refine Met.ofW (cc := cX7_neighbour) (maxL := 4) (ret := (some .int)) (by decide) rfl ?_
  intro p e s m args below meth c s₁ B hml hv
  obtain ⟨rfl, hsz, hP, hK, hD0⟩ := hv
  have hx := B.exec
  have hb := B.bytes
  have hr := B.returns
  have hts := atoms_spec (ws := vX7_neighbour) B.pre
  have hlk : ∀ w ∈ lkX7_neighbour, w.before _ s = true := fun w h => hts w (List.mem_cons_of_mem _ (List.mem_append_left _ h))
  have hown : s.vm.findClass RX7 = some m.cls := findClass_of_methodNamed B.named
  have hlocks := B.notSynchronized
  subst hsz
  have hD := hD0.self (sz := s.heap.size)
  generalize hAe : va_A (mW cI cJ h a forms prime turns lineT lineU kinds upper lower numbers q base least table rows lists listSize tried other line makers touches made kindForm kindTurns kindWays) s.heap.size = A at hD ⊢
  have hA : ∀ q : Nat, s.heap.size ≤ q → A q := fun q h => by rw [← hAe]; exact Or.inr h
  have hS : va_S A s.heap s.heap [] := va_S.rf
  have hinX7 : ∀ w ∈ wsX70, w ∈ vX7_neighbour := fun w h => List.mem_cons_of_mem _ (List.mem_append_right _ (List.mem_append_left _ h))
  have hf_13 := hlk (.fieldLink RX7 13 "KinFormsModel" "prime" "I") (by decide +kernel)
  have hf_24 := hlk (.fieldLink RX7 24 "KinFormsModel" "least" "[J") (by decide +kernel)
  have hl := lv_entry ([.ref h, .int p0, .int p1, .int p2] : List Value) (n := 4) (Nat.le_of_ble_eq_true rfl)
  rw [lg_entry_eq]
  generalize (lg_sl ([.ref h, .int p0, .int p1, .int p2] : List Value) ++ List.replicate (4 - (lg_sl ([.ref h, .int p0, .int p1, .int p2] : List Value)).length) Slot.unset).toArray = ls at hl ⊢
  have hl : lv_has ls 4 [(0, .ref h), (1, .int p0), (2, .int p1), (3, .int p2)] := hl
  unfold fX7_neighbour at hF
  refine W_Q (fun Q hQ => ?_)
  have hP : va_P (dC, dI) vwCl (mW cI cJ h a forms prime turns lineT lineU kinds upper lower numbers q base least table rows lists listSize tried other line makers touches made kindForm kindTurns kindWays) s.heap := hP
  refine W_HL (fun H locs eH eL => ?_)
  rw [← eH] at hP
  have hS : va_S A s.heap H locs := by rw [eH, eL]; exact hS
  refine lv_aload_n hx hb dX7_neighbour_0 rfl (lv_at hl 0 rfl) ?_
  refine lv_iload_n hx hb dX7_neighbour_1 rfl (lv_at hl 1 rfl) ?_
  obtain ⟨r_1, hc, hF⟩ := bd1_of hF
  refine rc_i (va_runV (As := [.int p0]) (rest := []) ⟨hx, hb, hml, hown, hts⟩ (c_X7_isForm l dC dI cI cJ h a forms prime turns lineT lineU kinds upper lower numbers q base least table rows lists listSize tried other line makers touches made kindForm kindTurns kindWays p0 r_1 hc) (cwV 1 hts g_X7_neighbour_X7_isForm rfl rfl rfl (by decide +kernel) ⟨Nat.le_of_ble_eq_true rfl, Nat.le_of_ble_eq_true rfl⟩) ⟨rPc_blind, va_recv hK hP (ci := 5) (q0 := 0) rfl rfl, rPc_at hK hP⟩ rfl rfl hl.1 rfl (lv_room (Nat.le_of_ble_eq_true rfl)) dX7_neighbour_2 ⟨Nat.zero_le _, Nat.zero_le _⟩) ?_
  refine lv_if_ne (tgt := 11) hx hb dX7_neighbour_5 (by decide) (fun c0 => ?_) (fun c0 => ?_)
  · have hF := if_f hF c0
    refine lv_iload_n hx hb dX7_neighbour_11 rfl (lv_at hl 2 rfl) ?_
    refine lv_i2l (v := p1.toInt64) hx hb dX7_neighbour_12 rfl ?_
    refine lv_lconst (v := 0) hx hb dX7_neighbour_13 (by decide) ?_
    refine lv_aload_n hx hb dX7_neighbour_14 rfl (lv_at hl 0 rfl) ?_
    refine va_get (D := (dC, dI)) (ci := 5) (v := .int prime) (C := RX7) (T := TX7) (N := 25) hx hb hts hinX7 hown hK hP 0 rfl rfl 2 (by decide) hf_13 (fun _ h9 => h9) rfl dX7_neighbour_15 ?_
    refine lv_i2l (v := prime.toInt64) hx hb dX7_neighbour_18 rfl ?_
    obtain ⟨r_2, hc, hF⟩ := bd1_of hF
    refine rc_i (va_runS (As := [.long p1.toInt64, .long (0 : Int64), .long prime.toInt64]) (rest := []) ⟨hx, hb, hml, hown, hts⟩ (c_X7_in l p1.toInt64 (0 : Int64) prime.toInt64 r_2 hc) (va_cwS 3 hts g_X7_neighbour_X7_in rfl rfl rfl (by decide +kernel) ⟨Nat.le_of_ble_eq_true rfl, Nat.le_of_ble_eq_true rfl⟩) ⟨tPc_blind, tPc_at⟩ rfl rfl hl.1 rfl (lv_room (Nat.le_of_ble_eq_true rfl)) dX7_neighbour_19 ⟨Nat.zero_le _, Nat.zero_le _⟩) ?_
    obtain ⟨k37, e_k37, hF⟩ := nm_ex hF
    have hk37 : ∀  (H : Heap) (locs : List Loc) (ls : Array Slot), va_P (dC, dI) vwCl (mW cI cJ h a forms prime turns lineT lineU kinds upper lower numbers q base least table rows lists listSize tried other line makers touches made kindForm kindTurns kindWays) H → va_D A (mW cI cJ h a forms prime turns lineT lineU kinds upper lower numbers q base least table rows lists listSize tried other line makers touches made kindForm kindTurns kindWays) → va_S A s.heap H locs → lv_has ls 4 [] → k37 = some (ro, o_turns, o_lineT, o_lineU, o_q, o_base, o_least, o_table, o_rows, o_lists, o_listSize, o_tried, o_line, o_makers, o_touches, o_made) → W p l e rmX7_neighbour s m ([.ref h, .int p0, .int p1, .int p2] : List Value).toArray below meth c H locs 0 0 Q (F0 m 37 ls []) := by
      intro H locs ls hP hD hS hl hF
      have hF := ka0 e_k37 hF
      refine lv_ldc (v := (-100002)) hx hb hown (hlk (.constant RX7 157 (-100002)) (by decide +kernel)) dX7_neighbour_37 ?_
      obtain ⟨q0, q1, q2, q3, q4, q5, q6, q7, q8, q9, q10, q11, q12, q13, q14, q15⟩ := sm16 hF
      have hP : va_P (dC, dI) vwCl (mW cI cJ h a forms prime o_turns o_lineT o_lineU kinds upper lower numbers o_q o_base o_least o_table o_rows o_lists o_listSize o_tried other o_line o_makers o_touches o_made kindForm kindTurns kindWays) H := by rw [← q1, ← q2, ← q3, ← q4, ← q5, ← q6, ← q7, ← q8, ← q9, ← q10, ← q11, ← q12, ← q13, ← q14, ← q15]; exact hP
      have hD : va_D A (mW cI cJ h a forms prime o_turns o_lineT o_lineU kinds upper lower numbers o_q o_base o_least o_table o_rows o_lists o_listSize o_tried other o_line o_makers o_touches o_made kindForm kindTurns kindWays) := by rw [← q1, ← q2, ← q3, ← q4, ← q5, ← q6, ← q7, ← q8, ← q9, ← q10, ← q11, ← q12, ← q13, ← q14, ← q15]; exact hD
      refine W_Qe hQ ?_
      exact W.iret hx hb hr (fun t ht hW => ⟨⟨(-100002 : Int32), (), rfl, q0, by rw [ht]; exact hP, va_K.moved hW.alike hK, hD⟩, hS.F ht⟩) hS.2.2 dX7_neighbour_39
    clear e_k37
    refine lv_if_eq (tgt := 37) hx hb dX7_neighbour_22 (by decide) (fun c0 => ?_) (fun c0 => ?_)
    · have hF := if_t hF c0
      exact hk37 H locs ls hP hD hS (lv_sub hl [] rfl) hF
    · have hF := if_f hF c0
      refine lv_iload_n hx hb dX7_neighbour_25 rfl (lv_at hl 3 rfl) ?_
      refine lv_i2l (v := p2.toInt64) hx hb dX7_neighbour_26 rfl ?_
      refine lv_lconst (v := 0) hx hb dX7_neighbour_27 (by decide) ?_
      refine lv_ldc2 (v := (5)) hx hb hown (hlk (.constantLong RX7 216 (5)) (by decide +kernel)) dX7_neighbour_28 ?_
      obtain ⟨r_3, hc, hF⟩ := bd1_of hF
      refine rc_i (va_runS (As := [.long p2.toInt64, .long (0 : Int64), .long (5 : Int64)]) (rest := []) ⟨hx, hb, hml, hown, hts⟩ (c_X7_in l p2.toInt64 (0 : Int64) (5 : Int64) r_3 hc) (va_cwS 3 hts g_X7_neighbour_X7_in rfl rfl rfl (by decide +kernel) ⟨Nat.le_of_ble_eq_true rfl, Nat.le_of_ble_eq_true rfl⟩) ⟨tPc_blind, tPc_at⟩ rfl rfl hl.1 rfl (lv_room (Nat.le_of_ble_eq_true rfl)) dX7_neighbour_31 ⟨Nat.zero_le _, Nat.zero_le _⟩) ?_
      refine lv_if_ne (tgt := 40) hx hb dX7_neighbour_34 (by decide) (fun c0 => ?_) (fun c0 => ?_)
      · have hF := if_f hF c0
        refine lv_aload_n hx hb dX7_neighbour_40 rfl (lv_at hl 0 rfl) ?_
        refine lv_iload_n hx hb dX7_neighbour_41 rfl (lv_at hl 1 rfl) ?_
        obtain ⟨q_4, hc, hF⟩ := bd1_of hF
        refine mc_v (va_runV (As := [.int p0]) (rest := []) ⟨hx, hb, hml, hown, hts⟩ (c_X7_hold l dC dI cI cJ h a fu H.size forms prime turns lineT lineU kinds upper lower numbers q base least table rows lists listSize tried other line makers touches made kindForm kindTurns kindWays p0 q_4 hc) (cwV 1 hts g_X7_neighbour_X7_hold rfl rfl rfl (by decide +kernel) ⟨Nat.le_of_ble_eq_true rfl, Nat.le_of_ble_eq_true rfl⟩) ⟨mPc_blind, va_recv hK hP (ci := 5) (q0 := 0) rfl rfl, mPc_at hK hP hD⟩ rfl rfl hl.1 rfl (lv_room (Nat.le_of_ble_eq_true rfl)) dX7_neighbour_42 ⟨Nat.zero_le _, Nat.zero_le _⟩) hS (fr_all hD hS hA) (fun H locs hP hD hS => ?_)
        refine lv_aload_n hx hb dX7_neighbour_45 rfl (lv_at hl 0 rfl) ?_
        obtain ⟨r_5, hc, hF⟩ := bd1_of hF
        refine rc_i (va_runV (As := []) (rest := []) ⟨hx, hb, hml, hown, hts⟩ (c_X7_divides l dC dI cI cJ h a forms prime turns lineT lineU kinds upper lower numbers q_4 base least table rows lists listSize tried other line makers touches made kindForm kindTurns kindWays  r_5 hc) (cwV 0 hts g_X7_neighbour_X7_divides rfl rfl rfl (by decide +kernel) ⟨Nat.le_of_ble_eq_true rfl, Nat.le_of_ble_eq_true rfl⟩) ⟨rPc_blind, va_recv hK hP (ci := 5) (q0 := 0) rfl rfl, rPc_at hK hP⟩ rfl rfl hl.1 rfl (lv_room (Nat.le_of_ble_eq_true rfl)) dX7_neighbour_46 ⟨Nat.zero_le _, Nat.zero_le _⟩) ?_
        refine lv_if_eq (tgt := 55) hx hb dX7_neighbour_49 (by decide) (fun c0 => ?_) (fun c0 => ?_)
        · have hF := if_t hF c0
          refine lv_aload_n hx hb dX7_neighbour_55 rfl (lv_at hl 0 rfl) ?_
          refine lv_iload_n hx hb dX7_neighbour_56 rfl (lv_at hl 2 rfl) ?_
          obtain ⟨turns_6, lineT_7, lineU_8, q_9, base_10, least_11, table_12, rows_13, lists_14, listSize_15, tried_16, line_17, makers_18, touches_19, made_20, hc, hF⟩ := bd15_of hF
          refine mc_v (va_runV (As := [.int p1]) (rest := []) ⟨hx, hb, hml, hown, hts⟩ (c_X7_findNeighbour l dC dI cI cJ h a fu H.size forms prime turns lineT lineU kinds upper lower numbers q_4 base least table rows lists listSize tried other line makers touches made kindForm kindTurns kindWays p1 turns_6 lineT_7 lineU_8 q_9 base_10 least_11 table_12 rows_13 lists_14 listSize_15 tried_16 line_17 makers_18 touches_19 made_20 hc) (cwV 1 hts g_X7_neighbour_X7_findNeighbour rfl rfl rfl (by decide +kernel) ⟨Nat.le_of_ble_eq_true rfl, Nat.le_of_ble_eq_true rfl⟩) ⟨mPc_blind, va_recv hK hP (ci := 5) (q0 := 0) rfl rfl, mPc_at hK hP hD⟩ rfl rfl hl.1 rfl (lv_room (Nat.le_of_ble_eq_true rfl)) dX7_neighbour_57 ⟨Nat.zero_le _, Nat.zero_le _⟩) hS (fr_all hD hS hA) (fun H locs hP hD hS => ?_)
          refine lv_aload_n hx hb dX7_neighbour_60 rfl (lv_at hl 0 rfl) ?_
          refine va_get (D := (dC, dI)) (ci := 5) (v := .ref (a 4)) (C := RX7) (T := TX7) (N := 25) hx hb hts hinX7 hown hK hP 0 rfl rfl 5 (by decide) hf_24 (fun _ h9 => h9) rfl dX7_neighbour_61 ?_
          refine lv_iload_n hx hb dX7_neighbour_64 rfl (lv_at hl 3 rfl) ?_
          obtain ⟨hi, hF⟩ := ck_of hF
          refine va_lald hx hb hK hP 4 1 rfl rfl hi dX7_neighbour_65 ?_
          refine lv_l2i (v := (least_11 p2.toNatClampNeg).toInt32) hx hb dX7_neighbour_66 rfl ?_
          refine lv_topi (fun v_21 e_v_21 => ?_)
          have hF := nm_at hF e_v_21
          obtain ⟨q0, q1, q2, q3, q4, q5, q6, q7, q8, q9, q10, q11, q12, q13, q14, q15⟩ := sm16 hF
          have hP : va_P (dC, dI) vwCl (mW cI cJ h a forms prime o_turns o_lineT o_lineU kinds upper lower numbers o_q o_base o_least o_table o_rows o_lists o_listSize o_tried other o_line o_makers o_touches o_made kindForm kindTurns kindWays) H := by rw [← q1, ← q2, ← q3, ← q4, ← q5, ← q6, ← q7, ← q8, ← q9, ← q10, ← q11, ← q12, ← q13, ← q14, ← q15]; exact hP
          have hD : va_D A (mW cI cJ h a forms prime o_turns o_lineT o_lineU kinds upper lower numbers o_q o_base o_least o_table o_rows o_lists o_listSize o_tried other o_line o_makers o_touches o_made kindForm kindTurns kindWays) := by rw [← q1, ← q2, ← q3, ← q4, ← q5, ← q6, ← q7, ← q8, ← q9, ← q10, ← q11, ← q12, ← q13, ← q14, ← q15]; exact hD
          refine W_Qe hQ ?_
          exact W.iret hx hb hr (fun t ht hW => ⟨⟨v_21, (), rfl, q0, by rw [ht]; exact hP, va_K.moved hW.alike hK, hD⟩, hS.F ht⟩) hS.2.2 dX7_neighbour_67
        · have hF := if_f hF c0
          refine lv_ldc (v := (-100003)) hx hb hown (hlk (.constant RX7 171 (-100003)) (by decide +kernel)) dX7_neighbour_52 ?_
          obtain ⟨q0, q1, q2, q3, q4, q5, q6, q7, q8, q9, q10, q11, q12, q13, q14, q15⟩ := sm16 hF
          have hP : va_P (dC, dI) vwCl (mW cI cJ h a forms prime o_turns o_lineT o_lineU kinds upper lower numbers o_q o_base o_least o_table o_rows o_lists o_listSize o_tried other o_line o_makers o_touches o_made kindForm kindTurns kindWays) H := by rw [← q1, ← q2, ← q3, ← q4, ← q5, ← q6, ← q7, ← q8, ← q9, ← q10, ← q11, ← q12, ← q13, ← q14, ← q15]; exact hP
          have hD : va_D A (mW cI cJ h a forms prime o_turns o_lineT o_lineU kinds upper lower numbers o_q o_base o_least o_table o_rows o_lists o_listSize o_tried other o_line o_makers o_touches o_made kindForm kindTurns kindWays) := by rw [← q1, ← q2, ← q3, ← q4, ← q5, ← q6, ← q7, ← q8, ← q9, ← q10, ← q11, ← q12, ← q13, ← q14, ← q15]; exact hD
          refine W_Qe hQ ?_
          exact W.iret hx hb hr (fun t ht hW => ⟨⟨(-100003 : Int32), (), rfl, q0, by rw [ht]; exact hP, va_K.moved hW.alike hK, hD⟩, hS.F ht⟩) hS.2.2 dX7_neighbour_54
      · have hF := if_t hF c0
        exact hk37 H locs ls hP hD hS (lv_sub hl [] rfl) hF
  · have hF := if_t hF c0
    refine lv_ldc (v := (-100001)) hx hb hown (hlk (.constant RX7 170 (-100001)) (by decide +kernel)) dX7_neighbour_8 ?_
    obtain ⟨q0, q1, q2, q3, q4, q5, q6, q7, q8, q9, q10, q11, q12, q13, q14, q15⟩ := sm16 hF
    have hP : va_P (dC, dI) vwCl (mW cI cJ h a forms prime o_turns o_lineT o_lineU kinds upper lower numbers o_q o_base o_least o_table o_rows o_lists o_listSize o_tried other o_line o_makers o_touches o_made kindForm kindTurns kindWays) H := by rw [← q1, ← q2, ← q3, ← q4, ← q5, ← q6, ← q7, ← q8, ← q9, ← q10, ← q11, ← q12, ← q13, ← q14, ← q15]; exact hP
    have hD : va_D A (mW cI cJ h a forms prime o_turns o_lineT o_lineU kinds upper lower numbers o_q o_base o_least o_table o_rows o_lists o_listSize o_tried other o_line o_makers o_touches o_made kindForm kindTurns kindWays) := by rw [← q1, ← q2, ← q3, ← q4, ← q5, ← q6, ← q7, ← q8, ← q9, ← q10, ← q11, ← q12, ← q13, ← q14, ← q15]; exact hD
    refine W_Qe hQ ?_
    exact W.iret hx hb hr (fun t ht hW => ⟨⟨(-100001 : Int32), (), rfl, q0, by rw [ht]; exact hP, va_K.moved hW.alike hK, hD⟩, hS.F ht⟩) hS.2.2 dX7_neighbour_10
def fX7_kindOfLeast_L14 (k57 : (Int32) → Option (Int32)) (x1_1 : Int32) (kindForm : Nat → Int64) (least : Nat → Int64) : Nat → (Int32) → (Int32) → Option (Int32)
  | 0, _, _ => none
  | n + 1, x2_2, x3_3 => if (6 : Int32) ≤ x3_3 then ((k57 x2_2)) else (nm (fun (s_5 : Int32) => nm (x3_3 + (1 : Int32)) (fun (x3_6 : Int32) => (fX7_kindOfLeast_L14 k57 x1_1 kindForm least n s_5 x3_6))) (fun (k50 : (Int32) → Option (Int32)) => nm ((k50 (0 : Int32))) (fun (k49 : Option (Int32)) => if x2_2 = 0 then ((k49)) else (nm (((6 : Int32) * x1_1) + x3_3) (fun (v_4 : Int32) => if okI v_4 102 then if okI x3_3 6 then if (kindForm v_4.toNatClampNeg) = (least x3_3.toNatClampNeg) then ((k50 (1 : Int32))) else ((k49)) else none else none)))))
def fX7_kindOfLeast_L2 (kinds : Int32) (kindForm : Nat → Int64) (least : Nat → Int64) (fu : Nat) : Nat → (Int32) → Option (Int32)
  | 0, _ => none
  | n + 1, x1_1 => if kinds ≤ x1_1 then (some (-1 : Int32)) else (nm (fun (x2_7 : Int32) => if x2_7 = 0 then (nm (x1_1 + (1 : Int32)) (fun (x1_8 : Int32) => (fX7_kindOfLeast_L2 kinds kindForm least fu n x1_8))) else (some x1_1)) (fun (k57 : (Int32) → Option (Int32)) => (fX7_kindOfLeast_L14 k57 x1_1 kindForm least fu (1 : Int32) (0 : Int32))))
def fX7_kindOfLeast (fu : Nat) (kinds : Int32) (least : Nat → Int64) (kindForm : Nat → Int64)  : Option (Int32) :=
  (fX7_kindOfLeast_L2 kinds kindForm least fu fu (0 : Int32))
def lkX7_kindOfLeast : List Cond := [.fieldLink RX7 221 "KinFormsModel" "kinds" "I", .fieldLink RX7 57 "KinFormsModel" "kindForm" "[J", .fieldLink RX7 24 "KinFormsModel" "least" "[J"]
def vX7_kindOfLeast : List Cond := .code yX7_kindOfLeast cX7_kindOfLeast 4 (some .int) :: (lkX7_kindOfLeast ++ (wsX70 ++ ([])))
theorem q_X7_kindOfLeast : ∀ w ∈ vX7_kindOfLeast, goodWord w = true := gd_cons rfl (gd_app (by decide +kernel) (gd_app q_wsX70 gd_nil))
abbrev rmX7_kindOfLeast : Room := { frames := 0, cells := 0, slots := 0, locals := 0 }
set_option maxHeartbeats 4000000 in
set_option maxRecDepth 100000 in
theorem c_X7_kindOfLeast (l : Launch) (dC : Nat → ClassId) (dI : Nat → Nat → Nat) (cI : ClassId) (cJ : ClassId) (h : Nat) (a : Nat → Nat) (fu : Nat) (forms : Int32) (prime : Int32) (turns : Int32) (lineT : Int32) (lineU : Int32) (kinds : Int32) (upper : Int64) (lower : Int64) (numbers : Nat → Int32) (q : Nat → Int64) (base : Nat → Int64) (least : Nat → Int64) (table : Nat → Int64) (rows : Nat → Int64) (lists : Nat → Int64) (listSize : Nat → Int32) (tried : Nat → Int64) (other : Nat → Int64) (line : Nat → Int64) (makers : Nat → Int64) (touches : Nat → Int64) (made : Nat → Int64) (kindForm : Nat → Int64) (kindTurns : Nat → Int32) (kindWays : Nat → Int32)  (ro : Int32) (hF : fX7_kindOfLeast fu kinds least kindForm = some ro) : Met l yX7_kindOfLeast vX7_kindOfLeast rmX7_kindOfLeast (va_Pc [.ref h] (rPc (dC, dI) vwCl (mW cI cJ h a forms prime turns lineT lineU kinds upper lower numbers q base least table rows lists listSize tried other line makers touches made kindForm kindTurns kindWays) [(cI, .int), (cJ, .long)])) (vp_Si (fun x => x = ro)) 0 0 (fun _ => False) := by
  refine Met.ofW (cc := cX7_kindOfLeast) (maxL := 4) (ret := (some .int)) (by decide) rfl ?_
  intro p e s m args below meth c s₁ B hml hv
  obtain ⟨rfl, hP, hK⟩ := hv
  have hx := B.exec
  have hb := B.bytes
  have hr := B.returns
  have hts := atoms_spec (ws := vX7_kindOfLeast) B.pre
  have hlk : ∀ w ∈ lkX7_kindOfLeast, w.before _ s = true := fun w h => hts w (List.mem_cons_of_mem _ (List.mem_append_left _ h))
  have hown : s.vm.findClass RX7 = some m.cls := findClass_of_methodNamed B.named
  have hlocks := B.notSynchronized
  have hinX7 : ∀ w ∈ wsX70, w ∈ vX7_kindOfLeast := fun w h => List.mem_cons_of_mem _ (List.mem_append_right _ (List.mem_append_left _ h))
  have hf_221 := hlk (.fieldLink RX7 221 "KinFormsModel" "kinds" "I") (by decide +kernel)
  have hf_57 := hlk (.fieldLink RX7 57 "KinFormsModel" "kindForm" "[J") (by decide +kernel)
  have hf_24 := hlk (.fieldLink RX7 24 "KinFormsModel" "least" "[J") (by decide +kernel)
  have hl := lv_entry ([.ref h] : List Value) (n := 4) (Nat.le_of_ble_eq_true rfl)
  rw [lg_entry_eq]
  generalize (lg_sl ([.ref h] : List Value) ++ List.replicate (4 - (lg_sl ([.ref h] : List Value)).length) Slot.unset).toArray = ls at hl ⊢
  have hl : lv_has ls 4 [(0, .ref h)] := hl
  unfold fX7_kindOfLeast at hF
  refine W_Q (fun Q hQ => ?_)
  refine lv_iconst (v := 0) hx hb dX7_kindOfLeast_0 (by decide) ?_
  refine lv_istore_n (lv' := [(1, .int (0 : Int32)), (0, .ref h)]) hx hb dX7_kindOfLeast_1 rfl hl (by decide) rfl (fun ls hl => ?_)
  have hL2 : ∀ n : Nat, ∀ (x1_1 : Int32) (ls : Array Slot), lv_has ls 4 [(0, .ref h), (1, .int x1_1)] → fX7_kindOfLeast_L2 kinds kindForm least fu n x1_1 = some ro → W p l e rmX7_kindOfLeast s m ([.ref h] : List Value).toArray below meth c s.heap [] 0 0 Q (F0 m 2 ls []) := by
    intro n
    induction n with
    | zero => intro x1_1 ls hl hF; rw [fX7_kindOfLeast_L2] at hF; cases hF
    | succ n ih2 =>
      intro x1_1 ls hl hF
      rw [fX7_kindOfLeast_L2] at hF
      refine lv_iload_n hx hb dX7_kindOfLeast_2 rfl (lv_at hl 1 rfl) ?_
      refine lv_aload_n hx hb dX7_kindOfLeast_3 rfl (lv_at hl 0 rfl) ?_
      refine va_get (D := (dC, dI)) (ci := 5) (v := .int kinds) (C := RX7) (T := TX7) (N := 25) hx hb hts hinX7 hown hK hP 0 rfl rfl 19 (by decide) hf_221 (fun _ h9 => h9) rfl dX7_kindOfLeast_4 ?_
      refine lv_icmp_ge (tgt := 69) hx hb dX7_kindOfLeast_7 (by decide) (fun c0 => ?_) (fun c0 => ?_)
      · have hF := if_t hF c0
        refine lv_iconst (v := (-1)) hx hb dX7_kindOfLeast_69 (by decide) ?_
        have q0 := sm1 hF
        refine W_Qe hQ ?_
        exact W.iret hx hb hr (fun t ht hW => ⟨_, rfl, q0, ht⟩) (fun _ h9 => by cases h9) dX7_kindOfLeast_70
      · have hF := if_f hF c0
        refine lv_iconst (v := 1) hx hb dX7_kindOfLeast_10 (by decide) ?_
        refine lv_istore_n (lv' := [(2, .int (1 : Int32)), (0, .ref h), (1, .int x1_1)]) hx hb dX7_kindOfLeast_11 rfl hl (by decide) rfl (fun ls hl => ?_)
        refine lv_iconst (v := 0) hx hb dX7_kindOfLeast_12 (by decide) ?_
        refine lv_istore_n (lv' := [(3, .int (0 : Int32)), (2, .int (1 : Int32)), (0, .ref h), (1, .int x1_1)]) hx hb dX7_kindOfLeast_13 rfl hl (by decide) rfl (fun ls hl => ?_)
        obtain ⟨k57, e_k57, hF⟩ := nm_ex hF
        have hk57 : ∀ (x2_7 : Int32) (ls : Array Slot), lv_has ls 4 [(0, .ref h), (1, .int x1_1), (2, .int x2_7)] → k57 x2_7 = some ro → W p l e rmX7_kindOfLeast s m ([.ref h] : List Value).toArray below meth c s.heap [] 0 0 Q (F0 m 57 ls []) := by
          intro x2_7 ls hl hF
          have hF := ka1 e_k57 hF
          refine lv_iload_n hx hb dX7_kindOfLeast_57 rfl (lv_at hl 2 rfl) ?_
          refine lv_if_eq (tgt := 63) hx hb dX7_kindOfLeast_58 (by decide) (fun c0 => ?_) (fun c0 => ?_)
          · have hF := if_t hF c0
            obtain ⟨x1_8, e_x1_8, hF⟩ := nm_ex hF
            refine lv_iinc (v := x1_8) (lv' := [(1, .int x1_8), (0, .ref h), (2, .int x2_7)]) hx hb dX7_kindOfLeast_63 hl (k := 1) rfl (by rw [e_x1_8]; rfl) (by decide) rfl (fun ls hl => ?_)
            refine lv_goto (tgt := 2) hx hb dX7_kindOfLeast_66 (by decide) ?_
            exact ih2 x1_8 ls (lv_sub hl [1, 0] rfl) hF
          · have hF := if_f hF c0
            refine lv_iload_n hx hb dX7_kindOfLeast_61 rfl (lv_at hl 1 rfl) ?_
            have q0 := sm1 hF
            refine W_Qe hQ ?_
            exact W.iret hx hb hr (fun t ht hW => ⟨_, rfl, q0, ht⟩) (fun _ h9 => by cases h9) dX7_kindOfLeast_62
        clear e_k57
        have hL14 : ∀ n : Nat, ∀ (x2_2 : Int32) (x3_3 : Int32) (ls : Array Slot), lv_has ls 4 [(0, .ref h), (1, .int x1_1), (2, .int x2_2), (3, .int x3_3)] → fX7_kindOfLeast_L14 k57 x1_1 kindForm least n x2_2 x3_3 = some ro → W p l e rmX7_kindOfLeast s m ([.ref h] : List Value).toArray below meth c s.heap [] 0 0 Q (F0 m 14 ls []) := by
          intro n
          induction n with
          | zero => intro x2_2 x3_3 ls hl hF; rw [fX7_kindOfLeast_L14] at hF; cases hF
          | succ n ih14 =>
            intro x2_2 x3_3 ls hl hF
            rw [fX7_kindOfLeast_L14] at hF
            refine lv_iload_n hx hb dX7_kindOfLeast_14 rfl (lv_at hl 3 rfl) ?_
            refine lv_bipush (v := (6)) hx hb dX7_kindOfLeast_15 (by decide) ?_
            refine lv_icmp_ge (tgt := 57) hx hb dX7_kindOfLeast_17 (by decide) (fun c0 => ?_) (fun c0 => ?_)
            · have hF := if_t hF c0
              exact hk57 x2_2 ls (lv_sub hl [0, 1, 2] rfl) hF
            · have hF := if_f hF c0
              refine lv_iload_n hx hb dX7_kindOfLeast_20 rfl (lv_at hl 2 rfl) ?_
              obtain ⟨k50, e_k50, hF⟩ := nm_ex hF
              have hk50 : ∀ (s_5 : Int32) (ls : Array Slot), lv_has ls 4 [(0, .ref h), (1, .int x1_1), (3, .int x3_3)] → k50 s_5 = some ro → W p l e rmX7_kindOfLeast s m ([.ref h] : List Value).toArray below meth c s.heap [] 0 0 Q (F0 m 50 ls [.int s_5]) := by
                intro s_5 ls hl hF
                have hF := ka1 e_k50 hF
                refine lv_istore_n (lv' := [(2, .int s_5), (0, .ref h), (1, .int x1_1), (3, .int x3_3)]) hx hb dX7_kindOfLeast_50 rfl hl (by decide) rfl (fun ls hl => ?_)
                obtain ⟨x3_6, e_x3_6, hF⟩ := nm_ex hF
                refine lv_iinc (v := x3_6) (lv' := [(3, .int x3_6), (2, .int s_5), (0, .ref h), (1, .int x1_1)]) hx hb dX7_kindOfLeast_51 hl (k := 3) rfl (by rw [e_x3_6]; rfl) (by decide) rfl (fun ls hl => ?_)
                refine lv_goto (tgt := 14) hx hb dX7_kindOfLeast_54 (by decide) ?_
                exact ih14 s_5 x3_6 ls (lv_sub hl [2, 3, 1, 0] rfl) hF
              clear e_k50
              obtain ⟨k49, e_k49, hF⟩ := nm_ex hF
              have hk49 : ∀  (ls : Array Slot), lv_has ls 4 [(0, .ref h), (1, .int x1_1), (3, .int x3_3)] → k49 = some ro → W p l e rmX7_kindOfLeast s m ([.ref h] : List Value).toArray below meth c s.heap [] 0 0 Q (F0 m 49 ls []) := by
                intro ls hl hF
                have hF := ka0 e_k49 hF
                refine lv_iconst (v := 0) hx hb dX7_kindOfLeast_49 (by decide) ?_
                exact hk50 (0 : Int32) ls (lv_sub hl [0, 1, 2] rfl) hF
              clear e_k49
              refine lv_if_eq (tgt := 49) hx hb dX7_kindOfLeast_21 (by decide) (fun c0 => ?_) (fun c0 => ?_)
              · have hF := if_t hF c0
                exact hk49 ls (lv_sub hl [0, 1, 3] rfl) hF
              · have hF := if_f hF c0
                refine lv_aload_n hx hb dX7_kindOfLeast_24 rfl (lv_at hl 0 rfl) ?_
                refine va_get (D := (dC, dI)) (ci := 5) (v := .ref (a 15)) (C := RX7) (T := TX7) (N := 25) hx hb hts hinX7 hown hK hP 0 rfl rfl 20 (by decide) hf_57 (fun _ h9 => h9) rfl dX7_kindOfLeast_25 ?_
                refine lv_bipush (v := (6)) hx hb dX7_kindOfLeast_28 (by decide) ?_
                refine lv_iload_n hx hb dX7_kindOfLeast_30 rfl (lv_at hl 1 rfl) ?_
                refine lv_imul hx hb dX7_kindOfLeast_31 ?_
                refine lv_iload_n hx hb dX7_kindOfLeast_32 rfl (lv_at hl 3 rfl) ?_
                refine lv_iadd hx hb dX7_kindOfLeast_33 ?_
                refine lv_topi (fun v_4 e_v_4 => ?_)
                have hF := nm_at hF e_v_4
                obtain ⟨hi, hF⟩ := ck_of hF
                refine va_lald hx hb hK hP 15 1 rfl rfl hi dX7_kindOfLeast_34 ?_
                refine lv_aload_n hx hb dX7_kindOfLeast_35 rfl (lv_at hl 0 rfl) ?_
                refine va_get (D := (dC, dI)) (ci := 5) (v := .ref (a 4)) (C := RX7) (T := TX7) (N := 25) hx hb hts hinX7 hown hK hP 0 rfl rfl 5 (by decide) hf_24 (fun _ h9 => h9) rfl dX7_kindOfLeast_36 ?_
                refine lv_iload_n hx hb dX7_kindOfLeast_39 rfl (lv_at hl 3 rfl) ?_
                obtain ⟨hi, hF⟩ := ck_of hF
                refine va_lald hx hb hK hP 4 1 rfl rfl hi dX7_kindOfLeast_40 ?_
                refine W.lcmp hx hb dX7_kindOfLeast_41 ?_
                refine lv_if_ne (tgt := 49) hx hb dX7_kindOfLeast_42 (by decide) (fun c0 => ?_) (fun c0 => ?_)
                · have c0 := (not_congr (lg_cmp_eq _ _)).mp c0
                  have hF := if_f hF c0
                  exact hk49 ls (lv_sub hl [0, 1, 3] rfl) hF
                · have c0 := (lg_cmp_eq _ _).mp c0
                  have hF := if_t hF c0
                  refine lv_iconst (v := 1) hx hb dX7_kindOfLeast_45 (by decide) ?_
                  refine lv_goto (tgt := 50) hx hb dX7_kindOfLeast_46 (by decide) ?_
                  exact hk50 (1 : Int32) ls (lv_sub hl [0, 1, 3] rfl) hF
        exact hL14 fu (1 : Int32) (0 : Int32) ls (lv_sub hl [2, 3, 1, 0] rfl) hF
  exact hL2 fu (0 : Int32) ls (lv_sub hl [1, 0] rfl) hF
def fX7_addKind_L2 (k34 : (Nat → Int64) → Option ((Int32) × (Nat → Int64) × (Nat → Int32))) (kinds : Int32) (least : Nat → Int64) : Nat → (Int32) → (Nat → Int64) → Option ((Int32) × (Nat → Int64) × (Nat → Int32))
  | 0, _, _ => none
  | n + 1, x1_1, kindForm_2 => if (6 : Int32) ≤ x1_1 then ((k34 kindForm_2)) else (if okI x1_1 6 then nm (((6 : Int32) * kinds) + x1_1) (fun (v_3 : Int32) => if okI v_3 102 then nm (vp_updL kindForm_2 v_3.toNatClampNeg (least x1_1.toNatClampNeg)) (fun (kindForm_4 : Nat → Int64) => nm (x1_1 + (1 : Int32)) (fun (x1_5 : Int32) => (fX7_addKind_L2 k34 kinds least n x1_5 kindForm_4))) else none) else none)
def fX7_addKind (fu : Nat) (turns : Int32) (kinds : Int32) (least : Nat → Int64) (kindForm : Nat → Int64) (kindTurns : Nat → Int32)  : Option ((Int32) × (Nat → Int64) × (Nat → Int32)) :=
  nm (fun (kindForm_6 : Nat → Int64) => if okI kinds 17 then nm (upd kindTurns kinds.toNatClampNeg turns) (fun (kindTurns_7 : Nat → Int32) => nm (kinds + (1 : Int32)) (fun (kinds_8 : Int32) => some (kinds_8, kindForm_6, kindTurns_7))) else none) (fun (k34 : (Nat → Int64) → Option ((Int32) × (Nat → Int64) × (Nat → Int32))) => (fX7_addKind_L2 k34 kinds least fu (0 : Int32) kindForm))
def lkX7_addKind : List Cond := [.fieldLink RX7 57 "KinFormsModel" "kindForm" "[J", .fieldLink RX7 221 "KinFormsModel" "kinds" "I", .fieldLink RX7 24 "KinFormsModel" "least" "[J", .fieldLink RX7 60 "KinFormsModel" "kindTurns" "[I", .fieldLink RX7 110 "KinFormsModel" "turns" "I"]
def vX7_addKind : List Cond := .code yX7_addKind cX7_addKind 2 none :: (lkX7_addKind ++ (wsX70 ++ ([])))
theorem q_X7_addKind : ∀ w ∈ vX7_addKind, goodWord w = true := gd_cons rfl (gd_app (by decide +kernel) (gd_app q_wsX70 gd_nil))
abbrev rmX7_addKind : Room := { frames := 0, cells := 0, slots := 0, locals := 0 }
set_option maxHeartbeats 4000000 in
set_option maxRecDepth 100000 in
theorem c_X7_addKind (l : Launch) (dC : Nat → ClassId) (dI : Nat → Nat → Nat) (cI : ClassId) (cJ : ClassId) (h : Nat) (a : Nat → Nat) (fu : Nat) (sz : Nat) (forms : Int32) (prime : Int32) (turns : Int32) (lineT : Int32) (lineU : Int32) (kinds : Int32) (upper : Int64) (lower : Int64) (numbers : Nat → Int32) (q : Nat → Int64) (base : Nat → Int64) (least : Nat → Int64) (table : Nat → Int64) (rows : Nat → Int64) (lists : Nat → Int64) (listSize : Nat → Int32) (tried : Nat → Int64) (other : Nat → Int64) (line : Nat → Int64) (makers : Nat → Int64) (touches : Nat → Int64) (made : Nat → Int64) (kindForm : Nat → Int64) (kindTurns : Nat → Int32) (kindWays : Nat → Int32)  (o_kinds : Int32) (o_kindForm : Nat → Int64) (o_kindTurns : Nat → Int32) (hF : fX7_addKind fu turns kinds least kindForm kindTurns = some (o_kinds, o_kindForm, o_kindTurns)) : Met l yX7_addKind vX7_addKind rmX7_addKind (va_Pc [.ref h] (mPc (dC, dI) vwCl (mW cI cJ h a forms prime turns lineT lineU kinds upper lower numbers q base least table rows lists listSize tried other line makers touches made kindForm kindTurns kindWays) [(cI, .int), (cJ, .long)] sz)) (va_Qv (fun (_ : Unit) => True) (mPo (dC, dI) vwCl (mW cI cJ h a forms prime turns lineT lineU o_kinds upper lower numbers q base least table rows lists listSize tried other line makers touches made o_kindForm o_kindTurns kindWays) [(cI, .int), (cJ, .long)] (va_A (mW cI cJ h a forms prime turns lineT lineU kinds upper lower numbers q base least table rows lists listSize tried other line makers touches made kindForm kindTurns kindWays) sz)) (va_A (mW cI cJ h a forms prime turns lineT lineU kinds upper lower numbers q base least table rows lists listSize tried other line makers touches made kindForm kindTurns kindWays) sz)) 0 0 (va_A (mW cI cJ h a forms prime turns lineT lineU kinds upper lower numbers q base least table rows lists listSize tried other line makers touches made kindForm kindTurns kindWays) sz) := by
  refine Met.ofW (cc := cX7_addKind) (maxL := 2) (ret := none) (by decide) rfl ?_
  intro p e s m args below meth c s₁ B hml hv
  obtain ⟨rfl, hsz, hP, hK, hD0⟩ := hv
  have hx := B.exec
  have hb := B.bytes
  have hr := B.returns
  have hts := atoms_spec (ws := vX7_addKind) B.pre
  have hlk : ∀ w ∈ lkX7_addKind, w.before _ s = true := fun w h => hts w (List.mem_cons_of_mem _ (List.mem_append_left _ h))
  have hown : s.vm.findClass RX7 = some m.cls := findClass_of_methodNamed B.named
  have hlocks := B.notSynchronized
  subst hsz
  have hD := hD0.self (sz := s.heap.size)
  generalize hAe : va_A (mW cI cJ h a forms prime turns lineT lineU kinds upper lower numbers q base least table rows lists listSize tried other line makers touches made kindForm kindTurns kindWays) s.heap.size = A at hD ⊢
  have hA : ∀ q : Nat, s.heap.size ≤ q → A q := fun q h => by rw [← hAe]; exact Or.inr h
  have hS : va_S A s.heap s.heap [] := va_S.rf
  have hinX7 : ∀ w ∈ wsX70, w ∈ vX7_addKind := fun w h => List.mem_cons_of_mem _ (List.mem_append_right _ (List.mem_append_left _ h))
  have hf_57 := hlk (.fieldLink RX7 57 "KinFormsModel" "kindForm" "[J") (by decide +kernel)
  have hf_221 := hlk (.fieldLink RX7 221 "KinFormsModel" "kinds" "I") (by decide +kernel)
  have hf_24 := hlk (.fieldLink RX7 24 "KinFormsModel" "least" "[J") (by decide +kernel)
  have hf_60 := hlk (.fieldLink RX7 60 "KinFormsModel" "kindTurns" "[I") (by decide +kernel)
  have hf_110 := hlk (.fieldLink RX7 110 "KinFormsModel" "turns" "I") (by decide +kernel)
  have hl := lv_entry ([.ref h] : List Value) (n := 2) (Nat.le_of_ble_eq_true rfl)
  rw [lg_entry_eq]
  generalize (lg_sl ([.ref h] : List Value) ++ List.replicate (2 - (lg_sl ([.ref h] : List Value)).length) Slot.unset).toArray = ls at hl ⊢
  have hl : lv_has ls 2 [(0, .ref h)] := hl
  unfold fX7_addKind at hF
  refine W_Q (fun Q hQ => ?_)
  have hP : va_P (dC, dI) vwCl (mW cI cJ h a forms prime turns lineT lineU kinds upper lower numbers q base least table rows lists listSize tried other line makers touches made kindForm kindTurns kindWays) s.heap := hP
  refine W_HL (fun H locs eH eL => ?_)
  rw [← eH] at hP
  have hS : va_S A s.heap H locs := by rw [eH, eL]; exact hS
  refine lv_iconst (v := 0) hx hb dX7_addKind_0 (by decide) ?_
  refine lv_istore_n (lv' := [(1, .int (0 : Int32)), (0, .ref h)]) hx hb dX7_addKind_1 rfl hl (by decide) rfl (fun ls hl => ?_)
  obtain ⟨k34, e_k34, hF⟩ := nm_ex hF
  have hk34 : ∀ (kindForm_6 : Nat → Int64) (H : Heap) (locs : List Loc) (ls : Array Slot), va_P (dC, dI) vwCl (mW cI cJ h a forms prime turns lineT lineU kinds upper lower numbers q base least table rows lists listSize tried other line makers touches made kindForm_6 kindTurns kindWays) H → va_D A (mW cI cJ h a forms prime turns lineT lineU kinds upper lower numbers q base least table rows lists listSize tried other line makers touches made kindForm_6 kindTurns kindWays) → va_S A s.heap H locs → lv_has ls 2 [(0, .ref h)] → k34 kindForm_6 = some (o_kinds, o_kindForm, o_kindTurns) → W p l e rmX7_addKind s m ([.ref h] : List Value).toArray below meth c H locs 0 0 Q (F0 m 34 ls []) := by
    intro kindForm_6 H locs ls hP hD hS hl hF
    have hF := ka1 e_k34 hF
    refine lv_aload_n hx hb dX7_addKind_34 rfl (lv_at hl 0 rfl) ?_
    refine va_get (D := (dC, dI)) (ci := 5) (v := .ref (a 16)) (C := RX7) (T := TX7) (N := 25) hx hb hts hinX7 hown hK hP 0 rfl rfl 21 (by decide) hf_60 (fun _ h9 => h9) rfl dX7_addKind_35 ?_
    refine lv_aload_n hx hb dX7_addKind_38 rfl (lv_at hl 0 rfl) ?_
    refine va_get (D := (dC, dI)) (ci := 5) (v := .int kinds) (C := RX7) (T := TX7) (N := 25) hx hb hts hinX7 hown hK hP 0 rfl rfl 19 (by decide) hf_221 (fun _ h9 => h9) rfl dX7_addKind_39 ?_
    refine lv_aload_n hx hb dX7_addKind_42 rfl (lv_at hl 0 rfl) ?_
    refine va_get (D := (dC, dI)) (ci := 5) (v := .int turns) (C := RX7) (T := TX7) (N := 25) hx hb hts hinX7 hown hK hP 0 rfl rfl 6 (by decide) hf_110 (fun _ h9 => h9) rfl dX7_addKind_43 ?_
    obtain ⟨hi, hF⟩ := ck_of hF
    obtain ⟨kindTurns_7, e_kindTurns_7, hF⟩ := nm_ex hF
    refine kc_iast (j := kinds.toNatClampNeg) (g := kindTurns_7) hx hb hK hP hD hS 16 0 rfl rfl rfl hi dX7_addKind_46 e_kindTurns_7 (fun H locs hP hD hS => ?_)
    have hP : va_P (dC, dI) vwCl (mW cI cJ h a forms prime turns lineT lineU kinds upper lower numbers q base least table rows lists listSize tried other line makers touches made kindForm_6 kindTurns_7 kindWays) H := hP
    have hD : va_D A (mW cI cJ h a forms prime turns lineT lineU kinds upper lower numbers q base least table rows lists listSize tried other line makers touches made kindForm_6 kindTurns_7 kindWays) := hD
    refine lv_aload_n hx hb dX7_addKind_47 rfl (lv_at hl 0 rfl) ?_
    refine lv_dup hx hb dX7_addKind_48 rfl ?_
    refine va_get (D := (dC, dI)) (ci := 5) (v := .int kinds) (C := RX7) (T := TX7) (N := 25) hx hb hts hinX7 hown hK hP 0 rfl rfl 19 (by decide) hf_221 (fun _ h9 => h9) rfl dX7_addKind_49 ?_
    refine lv_iconst (v := 1) hx hb dX7_addKind_52 (by decide) ?_
    refine lv_iadd hx hb dX7_addKind_53 ?_
    refine lv_topi (fun kinds_8 e_kinds_8 => ?_)
    have hF := nm_at hF e_kinds_8
    refine va_put (D := (dC, dI)) (ci := 5) (v := .int kinds_8) (ty := .int) (C := RX7) (T := TX7) (N := 25) hx hb hts hinX7 tyX7 tyX7_ok nmX7 hown hK hP hD hS 0 rfl rfl 19 (by decide) hf_221 (fun _ h9 => h9) rfl (by decide +kernel) rfl rfl (Nat.le_of_ble_eq_true rfl) dX7_addKind_54 (fun H locs hP hD hS => ?_)
    have hP : va_P (dC, dI) vwCl (mW cI cJ h a forms prime turns lineT lineU kinds_8 upper lower numbers q base least table rows lists listSize tried other line makers touches made kindForm_6 kindTurns_7 kindWays) H := hP
    have hD : va_D A (mW cI cJ h a forms prime turns lineT lineU kinds_8 upper lower numbers q base least table rows lists listSize tried other line makers touches made kindForm_6 kindTurns_7 kindWays) := hD
    obtain ⟨q0, q1, q2⟩ := sm3 hF
    have hP : va_P (dC, dI) vwCl (mW cI cJ h a forms prime turns lineT lineU o_kinds upper lower numbers q base least table rows lists listSize tried other line makers touches made o_kindForm o_kindTurns kindWays) H := by rw [← q0, ← q1, ← q2]; exact hP
    have hD : va_D A (mW cI cJ h a forms prime turns lineT lineU o_kinds upper lower numbers q base least table rows lists listSize tried other line makers touches made o_kindForm o_kindTurns kindWays) := by rw [← q0, ← q1, ← q2]; exact hD
    refine W_Qe hQ ?_
    exact W.vret hx hb hr (fun t ht hW => ⟨⟨(), rfl, trivial, by rw [ht]; exact hP, va_K.moved hW.alike hK, hD⟩, hS.F ht⟩) hS.2.2 dX7_addKind_57
  clear e_k34
  have hL2 : ∀ n : Nat, ∀ (x1_1 : Int32) (kindForm_2 : Nat → Int64) (H : Heap) (locs : List Loc) (ls : Array Slot), va_P (dC, dI) vwCl (mW cI cJ h a forms prime turns lineT lineU kinds upper lower numbers q base least table rows lists listSize tried other line makers touches made kindForm_2 kindTurns kindWays) H → va_D A (mW cI cJ h a forms prime turns lineT lineU kinds upper lower numbers q base least table rows lists listSize tried other line makers touches made kindForm_2 kindTurns kindWays) → va_S A s.heap H locs → lv_has ls 2 [(0, .ref h), (1, .int x1_1)] → fX7_addKind_L2 k34 kinds least n x1_1 kindForm_2 = some (o_kinds, o_kindForm, o_kindTurns) → W p l e rmX7_addKind s m ([.ref h] : List Value).toArray below meth c H locs 0 0 Q (F0 m 2 ls []) := by
    intro n
    induction n with
    | zero => intro x1_1 kindForm_2 H locs ls hP hD hS hl hF; rw [fX7_addKind_L2] at hF; cases hF
    | succ n ih2 =>
      intro x1_1 kindForm_2 H locs ls hP hD hS hl hF
      rw [fX7_addKind_L2] at hF
      refine lv_iload_n hx hb dX7_addKind_2 rfl (lv_at hl 1 rfl) ?_
      refine lv_bipush (v := (6)) hx hb dX7_addKind_3 (by decide) ?_
      refine lv_icmp_ge (tgt := 34) hx hb dX7_addKind_5 (by decide) (fun c0 => ?_) (fun c0 => ?_)
      · have hF := if_t hF c0
        exact hk34 kindForm_2 H locs ls hP hD hS (lv_sub hl [0] rfl) hF
      · have hF := if_f hF c0
        refine lv_aload_n hx hb dX7_addKind_8 rfl (lv_at hl 0 rfl) ?_
        refine va_get (D := (dC, dI)) (ci := 5) (v := .ref (a 15)) (C := RX7) (T := TX7) (N := 25) hx hb hts hinX7 hown hK hP 0 rfl rfl 20 (by decide) hf_57 (fun _ h9 => h9) rfl dX7_addKind_9 ?_
        refine lv_bipush (v := (6)) hx hb dX7_addKind_12 (by decide) ?_
        refine lv_aload_n hx hb dX7_addKind_14 rfl (lv_at hl 0 rfl) ?_
        refine va_get (D := (dC, dI)) (ci := 5) (v := .int kinds) (C := RX7) (T := TX7) (N := 25) hx hb hts hinX7 hown hK hP 0 rfl rfl 19 (by decide) hf_221 (fun _ h9 => h9) rfl dX7_addKind_15 ?_
        refine lv_imul hx hb dX7_addKind_18 ?_
        refine lv_iload_n hx hb dX7_addKind_19 rfl (lv_at hl 1 rfl) ?_
        refine lv_iadd hx hb dX7_addKind_20 ?_
        refine lv_aload_n hx hb dX7_addKind_21 rfl (lv_at hl 0 rfl) ?_
        refine va_get (D := (dC, dI)) (ci := 5) (v := .ref (a 4)) (C := RX7) (T := TX7) (N := 25) hx hb hts hinX7 hown hK hP 0 rfl rfl 5 (by decide) hf_24 (fun _ h9 => h9) rfl dX7_addKind_22 ?_
        refine lv_iload_n hx hb dX7_addKind_25 rfl (lv_at hl 1 rfl) ?_
        obtain ⟨hi, hF⟩ := ck_of hF
        refine va_lald hx hb hK hP 4 1 rfl rfl hi dX7_addKind_26 ?_
        obtain ⟨v_3, e_v_3, hF⟩ := nm_ex hF
        rw [← e_v_3]
        obtain ⟨hi, hF⟩ := ck_of hF
        obtain ⟨kindForm_4, e_kindForm_4, hF⟩ := nm_ex hF
        refine kc_last (j := v_3.toNatClampNeg) (g := kindForm_4) hx hb hK hP hD hS 15 1 rfl rfl rfl hi dX7_addKind_27 e_kindForm_4 (fun H locs hP hD hS => ?_)
        have hP : va_P (dC, dI) vwCl (mW cI cJ h a forms prime turns lineT lineU kinds upper lower numbers q base least table rows lists listSize tried other line makers touches made kindForm_4 kindTurns kindWays) H := hP
        have hD : va_D A (mW cI cJ h a forms prime turns lineT lineU kinds upper lower numbers q base least table rows lists listSize tried other line makers touches made kindForm_4 kindTurns kindWays) := hD
        obtain ⟨x1_5, e_x1_5, hF⟩ := nm_ex hF
        refine lv_iinc (v := x1_5) (lv' := [(1, .int x1_5), (0, .ref h)]) hx hb dX7_addKind_28 hl (k := 1) rfl (by rw [e_x1_5]; rfl) (by decide) rfl (fun ls hl => ?_)
        refine lv_goto (tgt := 2) hx hb dX7_addKind_31 (by decide) ?_
        exact ih2 x1_5 kindForm_4 H locs ls hP hD hS (lv_sub hl [1, 0] rfl) hF
  exact hL2 fu (0 : Int32) kindForm H locs ls hP hD hS (lv_sub hl [1, 0] rfl) hF
def fX7_holdKind_L2 (p0 : Int32) (kindForm : Nat → Int64) : Nat → (Int32) → (Nat → Int64) → Option ((Nat → Int64))
  | 0, _, _ => none
  | n + 1, x2_1, q_2 => if (6 : Int32) ≤ x2_1 then (some q_2) else (nm (((6 : Int32) * p0) + x2_1) (fun (v_3 : Int32) => if okI v_3 102 then if okI x2_1 6 then nm (vp_updL q_2 x2_1.toNatClampNeg (kindForm v_3.toNatClampNeg)) (fun (q_4 : Nat → Int64) => nm (x2_1 + (1 : Int32)) (fun (x2_5 : Int32) => (fX7_holdKind_L2 p0 kindForm n x2_5 q_4))) else none else none))
def fX7_holdKind (fu : Nat) (q : Nat → Int64) (kindForm : Nat → Int64) (p0 : Int32) : Option ((Nat → Int64)) :=
  (fX7_holdKind_L2 p0 kindForm fu (0 : Int32) q)
def lkX7_holdKind : List Cond := [.fieldLink RX7 17 "KinFormsModel" "q" "[J", .fieldLink RX7 57 "KinFormsModel" "kindForm" "[J"]
def vX7_holdKind : List Cond := .code yX7_holdKind cX7_holdKind 3 none :: (lkX7_holdKind ++ (wsX70 ++ ([])))
theorem q_X7_holdKind : ∀ w ∈ vX7_holdKind, goodWord w = true := gd_cons rfl (gd_app (by decide +kernel) (gd_app q_wsX70 gd_nil))
abbrev rmX7_holdKind : Room := { frames := 0, cells := 0, slots := 0, locals := 0 }
set_option maxHeartbeats 4000000 in
set_option maxRecDepth 100000 in
theorem c_X7_holdKind (l : Launch) (dC : Nat → ClassId) (dI : Nat → Nat → Nat) (cI : ClassId) (cJ : ClassId) (h : Nat) (a : Nat → Nat) (fu : Nat) (sz : Nat) (forms : Int32) (prime : Int32) (turns : Int32) (lineT : Int32) (lineU : Int32) (kinds : Int32) (upper : Int64) (lower : Int64) (numbers : Nat → Int32) (q : Nat → Int64) (base : Nat → Int64) (least : Nat → Int64) (table : Nat → Int64) (rows : Nat → Int64) (lists : Nat → Int64) (listSize : Nat → Int32) (tried : Nat → Int64) (other : Nat → Int64) (line : Nat → Int64) (makers : Nat → Int64) (touches : Nat → Int64) (made : Nat → Int64) (kindForm : Nat → Int64) (kindTurns : Nat → Int32) (kindWays : Nat → Int32) (p0 : Int32) (o_q : Nat → Int64) (hF : fX7_holdKind fu q kindForm p0 = some o_q) : Met l yX7_holdKind vX7_holdKind rmX7_holdKind (va_Pc [.ref h, .int p0] (mPc (dC, dI) vwCl (mW cI cJ h a forms prime turns lineT lineU kinds upper lower numbers q base least table rows lists listSize tried other line makers touches made kindForm kindTurns kindWays) [(cI, .int), (cJ, .long)] sz)) (va_Qv (fun (_ : Unit) => True) (mPo (dC, dI) vwCl (mW cI cJ h a forms prime turns lineT lineU kinds upper lower numbers o_q base least table rows lists listSize tried other line makers touches made kindForm kindTurns kindWays) [(cI, .int), (cJ, .long)] (va_A (mW cI cJ h a forms prime turns lineT lineU kinds upper lower numbers q base least table rows lists listSize tried other line makers touches made kindForm kindTurns kindWays) sz)) (va_A (mW cI cJ h a forms prime turns lineT lineU kinds upper lower numbers q base least table rows lists listSize tried other line makers touches made kindForm kindTurns kindWays) sz)) 0 0 (va_A (mW cI cJ h a forms prime turns lineT lineU kinds upper lower numbers q base least table rows lists listSize tried other line makers touches made kindForm kindTurns kindWays) sz) := by
  refine Met.ofW (cc := cX7_holdKind) (maxL := 3) (ret := none) (by decide) rfl ?_
  intro p e s m args below meth c s₁ B hml hv
  obtain ⟨rfl, hsz, hP, hK, hD0⟩ := hv
  have hx := B.exec
  have hb := B.bytes
  have hr := B.returns
  have hts := atoms_spec (ws := vX7_holdKind) B.pre
  have hlk : ∀ w ∈ lkX7_holdKind, w.before _ s = true := fun w h => hts w (List.mem_cons_of_mem _ (List.mem_append_left _ h))
  have hown : s.vm.findClass RX7 = some m.cls := findClass_of_methodNamed B.named
  have hlocks := B.notSynchronized
  subst hsz
  have hD := hD0.self (sz := s.heap.size)
  generalize hAe : va_A (mW cI cJ h a forms prime turns lineT lineU kinds upper lower numbers q base least table rows lists listSize tried other line makers touches made kindForm kindTurns kindWays) s.heap.size = A at hD ⊢
  have hA : ∀ q : Nat, s.heap.size ≤ q → A q := fun q h => by rw [← hAe]; exact Or.inr h
  have hS : va_S A s.heap s.heap [] := va_S.rf
  have hinX7 : ∀ w ∈ wsX70, w ∈ vX7_holdKind := fun w h => List.mem_cons_of_mem _ (List.mem_append_right _ (List.mem_append_left _ h))
  have hf_17 := hlk (.fieldLink RX7 17 "KinFormsModel" "q" "[J") (by decide +kernel)
  have hf_57 := hlk (.fieldLink RX7 57 "KinFormsModel" "kindForm" "[J") (by decide +kernel)
  have hl := lv_entry ([.ref h, .int p0] : List Value) (n := 3) (Nat.le_of_ble_eq_true rfl)
  rw [lg_entry_eq]
  generalize (lg_sl ([.ref h, .int p0] : List Value) ++ List.replicate (3 - (lg_sl ([.ref h, .int p0] : List Value)).length) Slot.unset).toArray = ls at hl ⊢
  have hl : lv_has ls 3 [(0, .ref h), (1, .int p0)] := hl
  unfold fX7_holdKind at hF
  refine W_Q (fun Q hQ => ?_)
  have hP : va_P (dC, dI) vwCl (mW cI cJ h a forms prime turns lineT lineU kinds upper lower numbers q base least table rows lists listSize tried other line makers touches made kindForm kindTurns kindWays) s.heap := hP
  refine W_HL (fun H locs eH eL => ?_)
  rw [← eH] at hP
  have hS : va_S A s.heap H locs := by rw [eH, eL]; exact hS
  refine lv_iconst (v := 0) hx hb dX7_holdKind_0 (by decide) ?_
  refine lv_istore_n (lv' := [(2, .int (0 : Int32)), (0, .ref h), (1, .int p0)]) hx hb dX7_holdKind_1 rfl hl (by decide) rfl (fun ls hl => ?_)
  have hL2 : ∀ n : Nat, ∀ (x2_1 : Int32) (q_2 : Nat → Int64) (H : Heap) (locs : List Loc) (ls : Array Slot), va_P (dC, dI) vwCl (mW cI cJ h a forms prime turns lineT lineU kinds upper lower numbers q_2 base least table rows lists listSize tried other line makers touches made kindForm kindTurns kindWays) H → va_D A (mW cI cJ h a forms prime turns lineT lineU kinds upper lower numbers q_2 base least table rows lists listSize tried other line makers touches made kindForm kindTurns kindWays) → va_S A s.heap H locs → lv_has ls 3 [(0, .ref h), (1, .int p0), (2, .int x2_1)] → fX7_holdKind_L2 p0 kindForm n x2_1 q_2 = some o_q → W p l e rmX7_holdKind s m ([.ref h, .int p0] : List Value).toArray below meth c H locs 0 0 Q (F0 m 2 ls []) := by
    intro n
    induction n with
    | zero => intro x2_1 q_2 H locs ls hP hD hS hl hF; rw [fX7_holdKind_L2] at hF; cases hF
    | succ n ih2 =>
      intro x2_1 q_2 H locs ls hP hD hS hl hF
      rw [fX7_holdKind_L2] at hF
      refine lv_iload_n hx hb dX7_holdKind_2 rfl (lv_at hl 2 rfl) ?_
      refine lv_bipush (v := (6)) hx hb dX7_holdKind_3 (by decide) ?_
      refine lv_icmp_ge (tgt := 31) hx hb dX7_holdKind_5 (by decide) (fun c0 => ?_) (fun c0 => ?_)
      · have hF := if_t hF c0
        have q0 := sm1 hF
        have hP : va_P (dC, dI) vwCl (mW cI cJ h a forms prime turns lineT lineU kinds upper lower numbers o_q base least table rows lists listSize tried other line makers touches made kindForm kindTurns kindWays) H := by rw [← q0]; exact hP
        have hD : va_D A (mW cI cJ h a forms prime turns lineT lineU kinds upper lower numbers o_q base least table rows lists listSize tried other line makers touches made kindForm kindTurns kindWays) := by rw [← q0]; exact hD
        refine W_Qe hQ ?_
        exact W.vret hx hb hr (fun t ht hW => ⟨⟨(), rfl, trivial, by rw [ht]; exact hP, va_K.moved hW.alike hK, hD⟩, hS.F ht⟩) hS.2.2 dX7_holdKind_31
      · have hF := if_f hF c0
        refine lv_aload_n hx hb dX7_holdKind_8 rfl (lv_at hl 0 rfl) ?_
        refine va_get (D := (dC, dI)) (ci := 5) (v := .ref (a 2)) (C := RX7) (T := TX7) (N := 25) hx hb hts hinX7 hown hK hP 0 rfl rfl 3 (by decide) hf_17 (fun _ h9 => h9) rfl dX7_holdKind_9 ?_
        refine lv_iload_n hx hb dX7_holdKind_12 rfl (lv_at hl 2 rfl) ?_
        refine lv_aload_n hx hb dX7_holdKind_13 rfl (lv_at hl 0 rfl) ?_
        refine va_get (D := (dC, dI)) (ci := 5) (v := .ref (a 15)) (C := RX7) (T := TX7) (N := 25) hx hb hts hinX7 hown hK hP 0 rfl rfl 20 (by decide) hf_57 (fun _ h9 => h9) rfl dX7_holdKind_14 ?_
        refine lv_bipush (v := (6)) hx hb dX7_holdKind_17 (by decide) ?_
        refine lv_iload_n hx hb dX7_holdKind_19 rfl (lv_at hl 1 rfl) ?_
        refine lv_imul hx hb dX7_holdKind_20 ?_
        refine lv_iload_n hx hb dX7_holdKind_21 rfl (lv_at hl 2 rfl) ?_
        refine lv_iadd hx hb dX7_holdKind_22 ?_
        refine lv_topi (fun v_3 e_v_3 => ?_)
        have hF := nm_at hF e_v_3
        obtain ⟨hi, hF⟩ := ck_of hF
        refine va_lald hx hb hK hP 15 1 rfl rfl hi dX7_holdKind_23 ?_
        obtain ⟨hi, hF⟩ := ck_of hF
        obtain ⟨q_4, e_q_4, hF⟩ := nm_ex hF
        refine kc_last (j := x2_1.toNatClampNeg) (g := q_4) hx hb hK hP hD hS 2 1 rfl rfl rfl hi dX7_holdKind_24 e_q_4 (fun H locs hP hD hS => ?_)
        have hP : va_P (dC, dI) vwCl (mW cI cJ h a forms prime turns lineT lineU kinds upper lower numbers q_4 base least table rows lists listSize tried other line makers touches made kindForm kindTurns kindWays) H := hP
        have hD : va_D A (mW cI cJ h a forms prime turns lineT lineU kinds upper lower numbers q_4 base least table rows lists listSize tried other line makers touches made kindForm kindTurns kindWays) := hD
        obtain ⟨x2_5, e_x2_5, hF⟩ := nm_ex hF
        refine lv_iinc (v := x2_5) (lv' := [(2, .int x2_5), (0, .ref h), (1, .int p0)]) hx hb dX7_holdKind_25 hl (k := 2) rfl (by rw [e_x2_5]; rfl) (by decide) rfl (fun ls hl => ?_)
        refine lv_goto (tgt := 2) hx hb dX7_holdKind_28 (by decide) ?_
        exact ih2 x2_5 q_4 H locs ls hP hD hS (lv_sub hl [1, 2, 0] rfl) hF
  exact hL2 fu (0 : Int32) q H locs ls hP hD hS (lv_sub hl [1, 2, 0] rfl) hF
def fX7_findKin_L62 (prime : Int32) (k135 : (Int32) → (Int32) → (Int32) → (Int32) → (Nat → Int64) → (Nat → Int64) → (Nat → Int64) → (Nat → Int64) → (Nat → Int64) → (Nat → Int64) → (Nat → Int32) → (Nat → Int64) → (Nat → Int64) → (Nat → Int64) → (Nat → Int64) → (Nat → Int64) → (Nat → Int64) → (Nat → Int32) → (Nat → Int32) → Option (Int32 × (Int32) × (Int32) × (Int32) × (Int32) × (Nat → Int64) × (Nat → Int64) × (Nat → Int64) × (Nat → Int64) × (Nat → Int64) × (Nat → Int64) × (Nat → Int32) × (Nat → Int64) × (Nat → Int64) × (Nat → Int64) × (Nat → Int64) × (Nat → Int64) × (Nat → Int64) × (Nat → Int32) × (Nat → Int32))) (fu : Nat) (x2_20 : Int32) : Nat → (Int32) → (Int32) → (Int32) → (Int32) → (Int32) → (Nat → Int64) → (Nat → Int64) → (Nat → Int64) → (Nat → Int64) → (Nat → Int64) → (Nat → Int64) → (Nat → Int32) → (Nat → Int64) → (Nat → Int64) → (Nat → Int64) → (Nat → Int64) → (Nat → Int64) → (Nat → Int64) → (Nat → Int32) → (Nat → Int32) → Option (Int32 × (Int32) × (Int32) × (Int32) × (Int32) × (Nat → Int64) × (Nat → Int64) × (Nat → Int64) × (Nat → Int64) × (Nat → Int64) × (Nat → Int64) × (Nat → Int32) × (Nat → Int64) × (Nat → Int64) × (Nat → Int64) × (Nat → Int64) × (Nat → Int64) × (Nat → Int64) × (Nat → Int32) × (Nat → Int32))
  | 0, _, _, _, _, _, _, _, _, _, _, _, _, _, _, _, _, _, _, _, _ => none
  | n + 1, x3_40, turns_41, lineT_42, lineU_43, kinds_44, q_45, base_46, least_47, table_48, rows_49, lists_50, listSize_51, tried_52, line_53, makers_54, touches_55, made_56, kindForm_57, kindTurns_58, kindWays_59 => if prime < x3_40 then ((k135 turns_41 lineT_42 lineU_43 kinds_44 q_45 base_46 least_47 table_48 rows_49 lists_50 listSize_51 tried_52 line_53 makers_54 touches_55 made_56 kindForm_57 kindTurns_58 kindWays_59)) else (bd1 (fX7_holdKind fu q_45 kindForm_57 x2_20) (fun (q_60 : Nat → Int64) => bd15 (fX7_findNeighbour fu prime q_60 base_46 least_47 table_48 rows_49 lists_50 listSize_51 tried_52 line_53 makers_54 touches_55 made_56 x3_40) (fun (turns_61 : Int32) (lineT_62 : Int32) (lineU_63 : Int32) (q_64 : Nat → Int64) (base_65 : Nat → Int64) (least_66 : Nat → Int64) (table_67 : Nat → Int64) (rows_68 : Nat → Int64) (lists_69 : Nat → Int64) (listSize_70 : Nat → Int32) (tried_71 : Nat → Int64) (line_72 : Nat → Int64) (makers_73 : Nat → Int64) (touches_74 : Nat → Int64) (made_75 : Nat → Int64) => bd1 (fX7_kindOfLeast fu kinds_44 least_66 kindForm_57) (fun (r_76 : Int32) => nm (fun (x4_80 : Int32) (kinds_81 : Int32) (kindForm_82 : Nat → Int64) (kindTurns_83 : Nat → Int32) => nm (((16 : Int32) * x2_20) + x4_80) (fun (v_84 : Int32) => if okI v_84 272 then nm (((16 : Int32) * x2_20) + x4_80) (fun (v_85 : Int32) => if okI v_85 272 then nm (upd kindWays_59 v_85.toNatClampNeg ((kindWays_59 v_84.toNatClampNeg) + (1 : Int32))) (fun (kindWays_86 : Nat → Int32) => nm (x3_40 + (1 : Int32)) (fun (x3_87 : Int32) => (fX7_findKin_L62 prime k135 fu x2_20 n x3_87 turns_61 lineT_62 lineU_63 kinds_81 q_64 base_65 least_66 table_67 rows_68 lists_69 listSize_70 tried_71 line_72 makers_73 touches_74 made_75 kindForm_82 kindTurns_83 kindWays_86))) else none) else none)) (fun (k113 : (Int32) → (Int32) → (Nat → Int64) → (Nat → Int32) → Option (Int32 × (Int32) × (Int32) × (Int32) × (Int32) × (Nat → Int64) × (Nat → Int64) × (Nat → Int64) × (Nat → Int64) × (Nat → Int64) × (Nat → Int64) × (Nat → Int32) × (Nat → Int64) × (Nat → Int64) × (Nat → Int64) × (Nat → Int64) × (Nat → Int64) × (Nat → Int64) × (Nat → Int32) × (Nat → Int32))) => if 0 ≤ r_76 then ((k113 r_76 kinds_44 kindForm_57 kindTurns_58)) else (bd3 (fX7_addKind fu turns_61 kinds_44 least_66 kindForm_57 kindTurns_58) (fun (kinds_77 : Int32) (kindForm_78 : Nat → Int64) (kindTurns_79 : Nat → Int32) => if kinds_77 ≤ (16 : Int32) then ((k113 kinds_44 kinds_77 kindForm_78 kindTurns_79)) else (some ((-100005 : Int32), turns_61, lineT_62, lineU_63, kinds_77, q_64, base_65, least_66, table_67, rows_68, lists_69, listSize_70, tried_71, line_72, makers_73, touches_74, made_75, kindForm_78, kindTurns_79, kindWays_59)))))))))
def fX7_findKin_L52 (prime : Int32) (fu : Nat) : Nat → (Int32) → (Int32) → (Int32) → (Int32) → (Int32) → (Nat → Int64) → (Nat → Int64) → (Nat → Int64) → (Nat → Int64) → (Nat → Int64) → (Nat → Int64) → (Nat → Int32) → (Nat → Int64) → (Nat → Int64) → (Nat → Int64) → (Nat → Int64) → (Nat → Int64) → (Nat → Int64) → (Nat → Int32) → (Nat → Int32) → Option (Int32 × (Int32) × (Int32) × (Int32) × (Int32) × (Nat → Int64) × (Nat → Int64) × (Nat → Int64) × (Nat → Int64) × (Nat → Int64) × (Nat → Int64) × (Nat → Int32) × (Nat → Int64) × (Nat → Int64) × (Nat → Int64) × (Nat → Int64) × (Nat → Int64) × (Nat → Int64) × (Nat → Int32) × (Nat → Int32))
  | 0, _, _, _, _, _, _, _, _, _, _, _, _, _, _, _, _, _, _, _, _ => none
  | n + 1, x2_20, turns_21, lineT_22, lineU_23, kinds_24, q_25, base_26, least_27, table_28, rows_29, lists_30, listSize_31, tried_32, line_33, makers_34, touches_35, made_36, kindForm_37, kindTurns_38, kindWays_39 => if kinds_24 ≤ x2_20 then (some (kinds_24, turns_21, lineT_22, lineU_23, kinds_24, q_25, base_26, least_27, table_28, rows_29, lists_30, listSize_31, tried_32, line_33, makers_34, touches_35, made_36, kindForm_37, kindTurns_38, kindWays_39)) else (nm (fun (turns_88 : Int32) (lineT_89 : Int32) (lineU_90 : Int32) (kinds_91 : Int32) (q_92 : Nat → Int64) (base_93 : Nat → Int64) (least_94 : Nat → Int64) (table_95 : Nat → Int64) (rows_96 : Nat → Int64) (lists_97 : Nat → Int64) (listSize_98 : Nat → Int32) (tried_99 : Nat → Int64) (line_100 : Nat → Int64) (makers_101 : Nat → Int64) (touches_102 : Nat → Int64) (made_103 : Nat → Int64) (kindForm_104 : Nat → Int64) (kindTurns_105 : Nat → Int32) (kindWays_106 : Nat → Int32) => nm (x2_20 + (1 : Int32)) (fun (x2_107 : Int32) => (fX7_findKin_L52 prime fu n x2_107 turns_88 lineT_89 lineU_90 kinds_91 q_92 base_93 least_94 table_95 rows_96 lists_97 listSize_98 tried_99 line_100 makers_101 touches_102 made_103 kindForm_104 kindTurns_105 kindWays_106))) (fun (k135 : (Int32) → (Int32) → (Int32) → (Int32) → (Nat → Int64) → (Nat → Int64) → (Nat → Int64) → (Nat → Int64) → (Nat → Int64) → (Nat → Int64) → (Nat → Int32) → (Nat → Int64) → (Nat → Int64) → (Nat → Int64) → (Nat → Int64) → (Nat → Int64) → (Nat → Int64) → (Nat → Int32) → (Nat → Int32) → Option (Int32 × (Int32) × (Int32) × (Int32) × (Int32) × (Nat → Int64) × (Nat → Int64) × (Nat → Int64) × (Nat → Int64) × (Nat → Int64) × (Nat → Int64) × (Nat → Int32) × (Nat → Int64) × (Nat → Int64) × (Nat → Int64) × (Nat → Int64) × (Nat → Int64) × (Nat → Int64) × (Nat → Int32) × (Nat → Int32))) => (fX7_findKin_L62 prime k135 fu x2_20 fu (0 : Int32) turns_21 lineT_22 lineU_23 kinds_24 q_25 base_26 least_27 table_28 rows_29 lists_30 listSize_31 tried_32 line_33 makers_34 touches_35 made_36 kindForm_37 kindTurns_38 kindWays_39)))
def fX7_findKin_L30 (k50 : (Nat → Int32) → Option (Int32 × (Int32) × (Int32) × (Int32) × (Int32) × (Nat → Int64) × (Nat → Int64) × (Nat → Int64) × (Nat → Int64) × (Nat → Int64) × (Nat → Int64) × (Nat → Int32) × (Nat → Int64) × (Nat → Int64) × (Nat → Int64) × (Nat → Int64) × (Nat → Int64) × (Nat → Int64) × (Nat → Int32) × (Nat → Int32))) : Nat → (Int32) → (Nat → Int32) → Option (Int32 × (Int32) × (Int32) × (Int32) × (Int32) × (Nat → Int64) × (Nat → Int64) × (Nat → Int64) × (Nat → Int64) × (Nat → Int64) × (Nat → Int64) × (Nat → Int32) × (Nat → Int64) × (Nat → Int64) × (Nat → Int64) × (Nat → Int64) × (Nat → Int64) × (Nat → Int64) × (Nat → Int32) × (Nat → Int32))
  | 0, _, _ => none
  | n + 1, x2_15, kindWays_16 => if (272 : Int32) ≤ x2_15 then ((k50 kindWays_16)) else (if okI x2_15 272 then nm (upd kindWays_16 x2_15.toNatClampNeg (0 : Int32)) (fun (kindWays_17 : Nat → Int32) => nm (x2_15 + (1 : Int32)) (fun (x2_18 : Int32) => (fX7_findKin_L30 k50 n x2_18 kindWays_17))) else none)
def fX7_findKin (fu : Nat) (prime : Int32) (turns : Int32) (lineT : Int32) (lineU : Int32) (kinds : Int32) (numbers : Nat → Int32) (q : Nat → Int64) (base : Nat → Int64) (least : Nat → Int64) (table : Nat → Int64) (rows : Nat → Int64) (lists : Nat → Int64) (listSize : Nat → Int32) (tried : Nat → Int64) (line : Nat → Int64) (makers : Nat → Int64) (touches : Nat → Int64) (made : Nat → Int64) (kindForm : Nat → Int64) (kindTurns : Nat → Int32) (kindWays : Nat → Int32) (p0 : Int32) : Option (Int32 × (Int32) × (Int32) × (Int32) × (Int32) × (Nat → Int64) × (Nat → Int64) × (Nat → Int64) × (Nat → Int64) × (Nat → Int64) × (Nat → Int64) × (Nat → Int32) × (Nat → Int64) × (Nat → Int64) × (Nat → Int64) × (Nat → Int64) × (Nat → Int64) × (Nat → Int64) × (Nat → Int32) × (Nat → Int32)) :=
  bd1 (fX7_hold fu numbers q p0) (fun (q_1 : Nat → Int64) => bd1 (fX7_divides prime q_1) (fun (r_2 : Int32) => if r_2 = 0 then (bd9 (fX7_findLeast fu q_1 base least table rows lists listSize tried) (fun (turns_3 : Int32) (q_4 : Nat → Int64) (base_5 : Nat → Int64) (least_6 : Nat → Int64) (table_7 : Nat → Int64) (rows_8 : Nat → Int64) (lists_9 : Nat → Int64) (listSize_10 : Nat → Int32) (tried_11 : Nat → Int64) => bd3 (fX7_addKind fu turns_3 (0 : Int32) least_6 kindForm kindTurns) (fun (kinds_12 : Int32) (kindForm_13 : Nat → Int64) (kindTurns_14 : Nat → Int32) => nm (fun (kindWays_19 : Nat → Int32) => (fX7_findKin_L52 prime fu fu (0 : Int32) turns_3 lineT lineU kinds_12 q_4 base_5 least_6 table_7 rows_8 lists_9 listSize_10 tried_11 line makers touches made kindForm_13 kindTurns_14 kindWays_19)) (fun (k50 : (Nat → Int32) → Option (Int32 × (Int32) × (Int32) × (Int32) × (Int32) × (Nat → Int64) × (Nat → Int64) × (Nat → Int64) × (Nat → Int64) × (Nat → Int64) × (Nat → Int64) × (Nat → Int32) × (Nat → Int64) × (Nat → Int64) × (Nat → Int64) × (Nat → Int64) × (Nat → Int64) × (Nat → Int64) × (Nat → Int32) × (Nat → Int32))) => (fX7_findKin_L30 k50 fu (0 : Int32) kindWays))))) else (some ((-100003 : Int32), turns, lineT, lineU, kinds, q_1, base, least, table, rows, lists, listSize, tried, line, makers, touches, made, kindForm, kindTurns, kindWays))))
def lkX7_findKin : List Cond := [.constant RX7 234 (-100005), .constant RX7 171 (-100003), .fieldLink RX7 221 "KinFormsModel" "kinds" "I", .fieldLink RX7 63 "KinFormsModel" "kindWays" "[I", .fieldLink RX7 13 "KinFormsModel" "prime" "I"]
def vX7_findKin : List Cond := .code yX7_findKin cX7_findKin 5 (some .int) :: (lkX7_findKin ++ (wsX70 ++ (wsV RX7 138 RX7 yX7_hold vX7_hold ++ (wsV RX7 212 RX7 yX7_divides vX7_divides ++ (wsV RX7 142 RX7 yX7_findLeast vX7_findLeast ++ (wsV RX7 224 RX7 yX7_addKind vX7_addKind ++ (wsV RX7 227 RX7 yX7_holdKind vX7_holdKind ++ (wsV RX7 218 RX7 yX7_findNeighbour vX7_findNeighbour ++ (wsV RX7 230 RX7 yX7_kindOfLeast vX7_kindOfLeast ++ ([]))))))))))
theorem q_X7_findKin : ∀ w ∈ vX7_findKin, goodWord w = true := gd_cons rfl (gd_app (by decide +kernel) (gd_app q_wsX70 (gd_app (gd_V q_X7_hold) (gd_app (gd_V q_X7_divides) (gd_app (gd_V q_X7_findLeast) (gd_app (gd_V q_X7_addKind) (gd_app (gd_V q_X7_holdKind) (gd_app (gd_V q_X7_findNeighbour) (gd_app (gd_V q_X7_kindOfLeast) gd_nil)))))))))
theorem g_X7_findKin_X7_hold : GoodIn vX7_findKin (wsV RX7 138 RX7 yX7_hold vX7_hold) := gi_of (fun w h => List.mem_cons_of_mem _ (List.mem_append_right _ (List.mem_append_right _ (List.mem_append_left _ h)))) (gd_V q_X7_hold)
theorem g_X7_findKin_X7_divides : GoodIn vX7_findKin (wsV RX7 212 RX7 yX7_divides vX7_divides) := gi_of (fun w h => List.mem_cons_of_mem _ (List.mem_append_right _ (List.mem_append_right _ (List.mem_append_right _ (List.mem_append_left _ h))))) (gd_V q_X7_divides)
theorem g_X7_findKin_X7_findLeast : GoodIn vX7_findKin (wsV RX7 142 RX7 yX7_findLeast vX7_findLeast) := gi_of (fun w h => List.mem_cons_of_mem _ (List.mem_append_right _ (List.mem_append_right _ (List.mem_append_right _ (List.mem_append_right _ (List.mem_append_left _ h)))))) (gd_V q_X7_findLeast)
theorem g_X7_findKin_X7_addKind : GoodIn vX7_findKin (wsV RX7 224 RX7 yX7_addKind vX7_addKind) := gi_of (fun w h => List.mem_cons_of_mem _ (List.mem_append_right _ (List.mem_append_right _ (List.mem_append_right _ (List.mem_append_right _ (List.mem_append_right _ (List.mem_append_left _ h))))))) (gd_V q_X7_addKind)
theorem g_X7_findKin_X7_holdKind : GoodIn vX7_findKin (wsV RX7 227 RX7 yX7_holdKind vX7_holdKind) := gi_of (fun w h => List.mem_cons_of_mem _ (List.mem_append_right _ (List.mem_append_right _ (List.mem_append_right _ (List.mem_append_right _ (List.mem_append_right _ (List.mem_append_right _ (List.mem_append_left _ h)))))))) (gd_V q_X7_holdKind)
theorem g_X7_findKin_X7_findNeighbour : GoodIn vX7_findKin (wsV RX7 218 RX7 yX7_findNeighbour vX7_findNeighbour) := gi_of (fun w h => List.mem_cons_of_mem _ (List.mem_append_right _ (List.mem_append_right _ (List.mem_append_right _ (List.mem_append_right _ (List.mem_append_right _ (List.mem_append_right _ (List.mem_append_right _ (List.mem_append_left _ h))))))))) (gd_V q_X7_findNeighbour)
theorem g_X7_findKin_X7_kindOfLeast : GoodIn vX7_findKin (wsV RX7 230 RX7 yX7_kindOfLeast vX7_kindOfLeast) := gi_of (fun w h => List.mem_cons_of_mem _ (List.mem_append_right _ (List.mem_append_right _ (List.mem_append_right _ (List.mem_append_right _ (List.mem_append_right _ (List.mem_append_right _ (List.mem_append_right _ (List.mem_append_right _ (List.mem_append_left _ h)))))))))) (gd_V q_X7_kindOfLeast)
abbrev rmX7_findKin : Room := { frames := 6, cells := 0, slots := 0, locals := 168 }
set_option maxHeartbeats 4000000 in
set_option maxRecDepth 100000 in
theorem c_X7_findKin (l : Launch) (dC : Nat → ClassId) (dI : Nat → Nat → Nat) (cI : ClassId) (cJ : ClassId) (h : Nat) (a : Nat → Nat) (fu : Nat) (sz : Nat) (forms : Int32) (prime : Int32) (turns : Int32) (lineT : Int32) (lineU : Int32) (kinds : Int32) (upper : Int64) (lower : Int64) (numbers : Nat → Int32) (q : Nat → Int64) (base : Nat → Int64) (least : Nat → Int64) (table : Nat → Int64) (rows : Nat → Int64) (lists : Nat → Int64) (listSize : Nat → Int32) (tried : Nat → Int64) (other : Nat → Int64) (line : Nat → Int64) (makers : Nat → Int64) (touches : Nat → Int64) (made : Nat → Int64) (kindForm : Nat → Int64) (kindTurns : Nat → Int32) (kindWays : Nat → Int32) (p0 : Int32) (ro : Int32) (o_turns : Int32) (o_lineT : Int32) (o_lineU : Int32) (o_kinds : Int32) (o_q : Nat → Int64) (o_base : Nat → Int64) (o_least : Nat → Int64) (o_table : Nat → Int64) (o_rows : Nat → Int64) (o_lists : Nat → Int64) (o_listSize : Nat → Int32) (o_tried : Nat → Int64) (o_line : Nat → Int64) (o_makers : Nat → Int64) (o_touches : Nat → Int64) (o_made : Nat → Int64) (o_kindForm : Nat → Int64) (o_kindTurns : Nat → Int32) (o_kindWays : Nat → Int32) (hF : fX7_findKin fu prime turns lineT lineU kinds numbers q base least table rows lists listSize tried line makers touches made kindForm kindTurns kindWays p0 = some (ro, o_turns, o_lineT, o_lineU, o_kinds, o_q, o_base, o_least, o_table, o_rows, o_lists, o_listSize, o_tried, o_line, o_makers, o_touches, o_made, o_kindForm, o_kindTurns, o_kindWays)) : Met l yX7_findKin vX7_findKin rmX7_findKin (va_Pc [.ref h, .int p0] (mPc (dC, dI) vwCl (mW cI cJ h a forms prime turns lineT lineU kinds upper lower numbers q base least table rows lists listSize tried other line makers touches made kindForm kindTurns kindWays) [(cI, .int), (cJ, .long)] sz)) (va_Qi (fun x (_ : Unit) => x = ro) (mPo (dC, dI) vwCl (mW cI cJ h a forms prime o_turns o_lineT o_lineU o_kinds upper lower numbers o_q o_base o_least o_table o_rows o_lists o_listSize o_tried other o_line o_makers o_touches o_made o_kindForm o_kindTurns o_kindWays) [(cI, .int), (cJ, .long)] (va_A (mW cI cJ h a forms prime turns lineT lineU kinds upper lower numbers q base least table rows lists listSize tried other line makers touches made kindForm kindTurns kindWays) sz)) (va_A (mW cI cJ h a forms prime turns lineT lineU kinds upper lower numbers q base least table rows lists listSize tried other line makers touches made kindForm kindTurns kindWays) sz)) 0 0 (va_A (mW cI cJ h a forms prime turns lineT lineU kinds upper lower numbers q base least table rows lists listSize tried other line makers touches made kindForm kindTurns kindWays) sz) := by
  refine Met.ofW (cc := cX7_findKin) (maxL := 5) (ret := (some .int)) (by decide) rfl ?_
  intro p e s m args below meth c s₁ B hml hv
  obtain ⟨rfl, hsz, hP, hK, hD0⟩ := hv
  have hx := B.exec
  have hb := B.bytes
  have hr := B.returns
  have hts := atoms_spec (ws := vX7_findKin) B.pre
  have hlk : ∀ w ∈ lkX7_findKin, w.before _ s = true := fun w h => hts w (List.mem_cons_of_mem _ (List.mem_append_left _ h))
  have hown : s.vm.findClass RX7 = some m.cls := findClass_of_methodNamed B.named
  have hlocks := B.notSynchronized
  subst hsz
  have hD := hD0.self (sz := s.heap.size)
  generalize hAe : va_A (mW cI cJ h a forms prime turns lineT lineU kinds upper lower numbers q base least table rows lists listSize tried other line makers touches made kindForm kindTurns kindWays) s.heap.size = A at hD ⊢
  have hA : ∀ q : Nat, s.heap.size ≤ q → A q := fun q h => by rw [← hAe]; exact Or.inr h
  have hS : va_S A s.heap s.heap [] := va_S.rf
  have hinX7 : ∀ w ∈ wsX70, w ∈ vX7_findKin := fun w h => List.mem_cons_of_mem _ (List.mem_append_right _ (List.mem_append_left _ h))
  have hf_221 := hlk (.fieldLink RX7 221 "KinFormsModel" "kinds" "I") (by decide +kernel)
  have hf_63 := hlk (.fieldLink RX7 63 "KinFormsModel" "kindWays" "[I") (by decide +kernel)
  have hf_13 := hlk (.fieldLink RX7 13 "KinFormsModel" "prime" "I") (by decide +kernel)
  have hl := lv_entry ([.ref h, .int p0] : List Value) (n := 5) (Nat.le_of_ble_eq_true rfl)
  rw [lg_entry_eq]
  generalize (lg_sl ([.ref h, .int p0] : List Value) ++ List.replicate (5 - (lg_sl ([.ref h, .int p0] : List Value)).length) Slot.unset).toArray = ls at hl ⊢
  have hl : lv_has ls 5 [(0, .ref h), (1, .int p0)] := hl
  unfold fX7_findKin at hF
  refine W_Q (fun Q hQ => ?_)
  have hP : va_P (dC, dI) vwCl (mW cI cJ h a forms prime turns lineT lineU kinds upper lower numbers q base least table rows lists listSize tried other line makers touches made kindForm kindTurns kindWays) s.heap := hP
  refine W_HL (fun H locs eH eL => ?_)
  rw [← eH] at hP
  have hS : va_S A s.heap H locs := by rw [eH, eL]; exact hS
  refine lv_aload_n hx hb dX7_findKin_0 rfl (lv_at hl 0 rfl) ?_
  refine lv_iload_n hx hb dX7_findKin_1 rfl (lv_at hl 1 rfl) ?_
  obtain ⟨q_1, hc, hF⟩ := bd1_of hF
  refine mc_v (va_runV (As := [.int p0]) (rest := []) ⟨hx, hb, hml, hown, hts⟩ (c_X7_hold l dC dI cI cJ h a fu H.size forms prime turns lineT lineU kinds upper lower numbers q base least table rows lists listSize tried other line makers touches made kindForm kindTurns kindWays p0 q_1 hc) (cwV 1 hts g_X7_findKin_X7_hold rfl rfl rfl (by decide +kernel) ⟨Nat.le_of_ble_eq_true rfl, Nat.le_of_ble_eq_true rfl⟩) ⟨mPc_blind, va_recv hK hP (ci := 5) (q0 := 0) rfl rfl, mPc_at hK hP hD⟩ rfl rfl hl.1 rfl (lv_room (Nat.le_of_ble_eq_true rfl)) dX7_findKin_2 ⟨Nat.zero_le _, Nat.zero_le _⟩) hS (fr_all hD hS hA) (fun H locs hP hD hS => ?_)
  refine lv_aload_n hx hb dX7_findKin_5 rfl (lv_at hl 0 rfl) ?_
  obtain ⟨r_2, hc, hF⟩ := bd1_of hF
  refine rc_i (va_runV (As := []) (rest := []) ⟨hx, hb, hml, hown, hts⟩ (c_X7_divides l dC dI cI cJ h a forms prime turns lineT lineU kinds upper lower numbers q_1 base least table rows lists listSize tried other line makers touches made kindForm kindTurns kindWays  r_2 hc) (cwV 0 hts g_X7_findKin_X7_divides rfl rfl rfl (by decide +kernel) ⟨Nat.le_of_ble_eq_true rfl, Nat.le_of_ble_eq_true rfl⟩) ⟨rPc_blind, va_recv hK hP (ci := 5) (q0 := 0) rfl rfl, rPc_at hK hP⟩ rfl rfl hl.1 rfl (lv_room (Nat.le_of_ble_eq_true rfl)) dX7_findKin_6 ⟨Nat.zero_le _, Nat.zero_le _⟩) ?_
  refine lv_if_eq (tgt := 15) hx hb dX7_findKin_9 (by decide) (fun c0 => ?_) (fun c0 => ?_)
  · have hF := if_t hF c0
    refine lv_aload_n hx hb dX7_findKin_15 rfl (lv_at hl 0 rfl) ?_
    refine lv_iconst (v := 0) hx hb dX7_findKin_16 (by decide) ?_
    refine va_put (D := (dC, dI)) (ci := 5) (v := .int (0 : Int32)) (ty := .int) (C := RX7) (T := TX7) (N := 25) hx hb hts hinX7 tyX7 tyX7_ok nmX7 hown hK hP hD hS 0 rfl rfl 19 (by decide) hf_221 (fun _ h9 => h9) rfl (by decide +kernel) rfl rfl (Nat.le_of_ble_eq_true rfl) dX7_findKin_17 (fun H locs hP hD hS => ?_)
    have hP : va_P (dC, dI) vwCl (mW cI cJ h a forms prime turns lineT lineU (0 : Int32) upper lower numbers q_1 base least table rows lists listSize tried other line makers touches made kindForm kindTurns kindWays) H := hP
    have hD : va_D A (mW cI cJ h a forms prime turns lineT lineU (0 : Int32) upper lower numbers q_1 base least table rows lists listSize tried other line makers touches made kindForm kindTurns kindWays) := hD
    refine lv_aload_n hx hb dX7_findKin_20 rfl (lv_at hl 0 rfl) ?_
    obtain ⟨turns_3, q_4, base_5, least_6, table_7, rows_8, lists_9, listSize_10, tried_11, hc, hF⟩ := bd9_of hF
    refine mc_v (va_runV (As := []) (rest := []) ⟨hx, hb, hml, hown, hts⟩ (c_X7_findLeast l dC dI cI cJ h a fu H.size forms prime turns lineT lineU (0 : Int32) upper lower numbers q_1 base least table rows lists listSize tried other line makers touches made kindForm kindTurns kindWays  turns_3 q_4 base_5 least_6 table_7 rows_8 lists_9 listSize_10 tried_11 hc) (cwV 0 hts g_X7_findKin_X7_findLeast rfl rfl rfl (by decide +kernel) ⟨Nat.le_of_ble_eq_true rfl, Nat.le_of_ble_eq_true rfl⟩) ⟨mPc_blind, va_recv hK hP (ci := 5) (q0 := 0) rfl rfl, mPc_at hK hP hD⟩ rfl rfl hl.1 rfl (lv_room (Nat.le_of_ble_eq_true rfl)) dX7_findKin_21 ⟨Nat.zero_le _, Nat.zero_le _⟩) hS (fr_all hD hS hA) (fun H locs hP hD hS => ?_)
    refine lv_aload_n hx hb dX7_findKin_24 rfl (lv_at hl 0 rfl) ?_
    obtain ⟨kinds_12, kindForm_13, kindTurns_14, hc, hF⟩ := bd3_of hF
    refine mc_v (va_runV (As := []) (rest := []) ⟨hx, hb, hml, hown, hts⟩ (c_X7_addKind l dC dI cI cJ h a fu H.size forms prime turns_3 lineT lineU (0 : Int32) upper lower numbers q_4 base_5 least_6 table_7 rows_8 lists_9 listSize_10 tried_11 other line makers touches made kindForm kindTurns kindWays  kinds_12 kindForm_13 kindTurns_14 hc) (cwV 0 hts g_X7_findKin_X7_addKind rfl rfl rfl (by decide +kernel) ⟨Nat.le_of_ble_eq_true rfl, Nat.le_of_ble_eq_true rfl⟩) ⟨mPc_blind, va_recv hK hP (ci := 5) (q0 := 0) rfl rfl, mPc_at hK hP hD⟩ rfl rfl hl.1 rfl (lv_room (Nat.le_of_ble_eq_true rfl)) dX7_findKin_25 ⟨Nat.zero_le _, Nat.zero_le _⟩) hS (fr_all hD hS hA) (fun H locs hP hD hS => ?_)
    refine lv_iconst (v := 0) hx hb dX7_findKin_28 (by decide) ?_
    refine lv_istore_n (lv' := [(2, .int (0 : Int32)), (0, .ref h), (1, .int p0)]) hx hb dX7_findKin_29 rfl hl (by decide) rfl (fun ls hl => ?_)
    obtain ⟨k50, e_k50, hF⟩ := nm_ex hF
    have hk50 : ∀ (kindWays_19 : Nat → Int32) (H : Heap) (locs : List Loc) (ls : Array Slot), va_P (dC, dI) vwCl (mW cI cJ h a forms prime turns_3 lineT lineU kinds_12 upper lower numbers q_4 base_5 least_6 table_7 rows_8 lists_9 listSize_10 tried_11 other line makers touches made kindForm_13 kindTurns_14 kindWays_19) H → va_D A (mW cI cJ h a forms prime turns_3 lineT lineU kinds_12 upper lower numbers q_4 base_5 least_6 table_7 rows_8 lists_9 listSize_10 tried_11 other line makers touches made kindForm_13 kindTurns_14 kindWays_19) → va_S A s.heap H locs → lv_has ls 5 [(0, .ref h)] → k50 kindWays_19 = some (ro, o_turns, o_lineT, o_lineU, o_kinds, o_q, o_base, o_least, o_table, o_rows, o_lists, o_listSize, o_tried, o_line, o_makers, o_touches, o_made, o_kindForm, o_kindTurns, o_kindWays) → W p l e rmX7_findKin s m ([.ref h, .int p0] : List Value).toArray below meth c H locs 0 0 Q (F0 m 50 ls []) := by
      intro kindWays_19 H locs ls hP hD hS hl hF
      have hF := ka1 e_k50 hF
      refine lv_iconst (v := 0) hx hb dX7_findKin_50 (by decide) ?_
      refine lv_istore_n (lv' := [(2, .int (0 : Int32)), (0, .ref h)]) hx hb dX7_findKin_51 rfl hl (by decide) rfl (fun ls hl => ?_)
      have hL52 : ∀ n : Nat, ∀ (x2_20 : Int32) (turns_21 : Int32) (lineT_22 : Int32) (lineU_23 : Int32) (kinds_24 : Int32) (q_25 : Nat → Int64) (base_26 : Nat → Int64) (least_27 : Nat → Int64) (table_28 : Nat → Int64) (rows_29 : Nat → Int64) (lists_30 : Nat → Int64) (listSize_31 : Nat → Int32) (tried_32 : Nat → Int64) (line_33 : Nat → Int64) (makers_34 : Nat → Int64) (touches_35 : Nat → Int64) (made_36 : Nat → Int64) (kindForm_37 : Nat → Int64) (kindTurns_38 : Nat → Int32) (kindWays_39 : Nat → Int32) (H : Heap) (locs : List Loc) (ls : Array Slot), va_P (dC, dI) vwCl (mW cI cJ h a forms prime turns_21 lineT_22 lineU_23 kinds_24 upper lower numbers q_25 base_26 least_27 table_28 rows_29 lists_30 listSize_31 tried_32 other line_33 makers_34 touches_35 made_36 kindForm_37 kindTurns_38 kindWays_39) H → va_D A (mW cI cJ h a forms prime turns_21 lineT_22 lineU_23 kinds_24 upper lower numbers q_25 base_26 least_27 table_28 rows_29 lists_30 listSize_31 tried_32 other line_33 makers_34 touches_35 made_36 kindForm_37 kindTurns_38 kindWays_39) → va_S A s.heap H locs → lv_has ls 5 [(0, .ref h), (2, .int x2_20)] → fX7_findKin_L52 prime fu n x2_20 turns_21 lineT_22 lineU_23 kinds_24 q_25 base_26 least_27 table_28 rows_29 lists_30 listSize_31 tried_32 line_33 makers_34 touches_35 made_36 kindForm_37 kindTurns_38 kindWays_39 = some (ro, o_turns, o_lineT, o_lineU, o_kinds, o_q, o_base, o_least, o_table, o_rows, o_lists, o_listSize, o_tried, o_line, o_makers, o_touches, o_made, o_kindForm, o_kindTurns, o_kindWays) → W p l e rmX7_findKin s m ([.ref h, .int p0] : List Value).toArray below meth c H locs 0 0 Q (F0 m 52 ls []) := by
        intro n
        induction n with
        | zero => intro x2_20 turns_21 lineT_22 lineU_23 kinds_24 q_25 base_26 least_27 table_28 rows_29 lists_30 listSize_31 tried_32 line_33 makers_34 touches_35 made_36 kindForm_37 kindTurns_38 kindWays_39 H locs ls hP hD hS hl hF; rw [fX7_findKin_L52] at hF; cases hF
        | succ n ih52 =>
          intro x2_20 turns_21 lineT_22 lineU_23 kinds_24 q_25 base_26 least_27 table_28 rows_29 lists_30 listSize_31 tried_32 line_33 makers_34 touches_35 made_36 kindForm_37 kindTurns_38 kindWays_39 H locs ls hP hD hS hl hF
          rw [fX7_findKin_L52] at hF
          refine lv_iload_n hx hb dX7_findKin_52 rfl (lv_at hl 1 rfl) ?_
          refine lv_aload_n hx hb dX7_findKin_53 rfl (lv_at hl 0 rfl) ?_
          refine va_get (D := (dC, dI)) (ci := 5) (v := .int kinds_24) (C := RX7) (T := TX7) (N := 25) hx hb hts hinX7 hown hK hP 0 rfl rfl 19 (by decide) hf_221 (fun _ h9 => h9) rfl dX7_findKin_54 ?_
          refine lv_icmp_ge (tgt := 141) hx hb dX7_findKin_57 (by decide) (fun c0 => ?_) (fun c0 => ?_)
          · have hF := if_t hF c0
            refine lv_aload_n hx hb dX7_findKin_141 rfl (lv_at hl 0 rfl) ?_
            refine va_get (D := (dC, dI)) (ci := 5) (v := .int kinds_24) (C := RX7) (T := TX7) (N := 25) hx hb hts hinX7 hown hK hP 0 rfl rfl 19 (by decide) hf_221 (fun _ h9 => h9) rfl dX7_findKin_142 ?_
            obtain ⟨q0, q1, q2, q3, q4, q5, q6, q7, q8, q9, q10, q11, q12, q13, q14, q15, q16, q17, q18, q19⟩ := sm20 hF
            have hP : va_P (dC, dI) vwCl (mW cI cJ h a forms prime o_turns o_lineT o_lineU o_kinds upper lower numbers o_q o_base o_least o_table o_rows o_lists o_listSize o_tried other o_line o_makers o_touches o_made o_kindForm o_kindTurns o_kindWays) H := by rw [← q1, ← q2, ← q3, ← q4, ← q5, ← q6, ← q7, ← q8, ← q9, ← q10, ← q11, ← q12, ← q13, ← q14, ← q15, ← q16, ← q17, ← q18, ← q19]; exact hP
            have hD : va_D A (mW cI cJ h a forms prime o_turns o_lineT o_lineU o_kinds upper lower numbers o_q o_base o_least o_table o_rows o_lists o_listSize o_tried other o_line o_makers o_touches o_made o_kindForm o_kindTurns o_kindWays) := by rw [← q1, ← q2, ← q3, ← q4, ← q5, ← q6, ← q7, ← q8, ← q9, ← q10, ← q11, ← q12, ← q13, ← q14, ← q15, ← q16, ← q17, ← q18, ← q19]; exact hD
            refine W_Qe hQ ?_
            exact W.iret hx hb hr (fun t ht hW => ⟨⟨kinds_24, (), rfl, q0, by rw [ht]; exact hP, va_K.moved hW.alike hK, hD⟩, hS.F ht⟩) hS.2.2 dX7_findKin_145
          · have hF := if_f hF c0
            refine lv_iconst (v := 0) hx hb dX7_findKin_60 (by decide) ?_
            refine lv_istore_n (lv' := [(3, .int (0 : Int32)), (0, .ref h), (2, .int x2_20)]) hx hb dX7_findKin_61 rfl hl (by decide) rfl (fun ls hl => ?_)
            obtain ⟨k135, e_k135, hF⟩ := nm_ex hF
            have hk135 : ∀ (turns_88 : Int32) (lineT_89 : Int32) (lineU_90 : Int32) (kinds_91 : Int32) (q_92 : Nat → Int64) (base_93 : Nat → Int64) (least_94 : Nat → Int64) (table_95 : Nat → Int64) (rows_96 : Nat → Int64) (lists_97 : Nat → Int64) (listSize_98 : Nat → Int32) (tried_99 : Nat → Int64) (line_100 : Nat → Int64) (makers_101 : Nat → Int64) (touches_102 : Nat → Int64) (made_103 : Nat → Int64) (kindForm_104 : Nat → Int64) (kindTurns_105 : Nat → Int32) (kindWays_106 : Nat → Int32) (H : Heap) (locs : List Loc) (ls : Array Slot), va_P (dC, dI) vwCl (mW cI cJ h a forms prime turns_88 lineT_89 lineU_90 kinds_91 upper lower numbers q_92 base_93 least_94 table_95 rows_96 lists_97 listSize_98 tried_99 other line_100 makers_101 touches_102 made_103 kindForm_104 kindTurns_105 kindWays_106) H → va_D A (mW cI cJ h a forms prime turns_88 lineT_89 lineU_90 kinds_91 upper lower numbers q_92 base_93 least_94 table_95 rows_96 lists_97 listSize_98 tried_99 other line_100 makers_101 touches_102 made_103 kindForm_104 kindTurns_105 kindWays_106) → va_S A s.heap H locs → lv_has ls 5 [(0, .ref h), (2, .int x2_20)] → k135 turns_88 lineT_89 lineU_90 kinds_91 q_92 base_93 least_94 table_95 rows_96 lists_97 listSize_98 tried_99 line_100 makers_101 touches_102 made_103 kindForm_104 kindTurns_105 kindWays_106 = some (ro, o_turns, o_lineT, o_lineU, o_kinds, o_q, o_base, o_least, o_table, o_rows, o_lists, o_listSize, o_tried, o_line, o_makers, o_touches, o_made, o_kindForm, o_kindTurns, o_kindWays) → W p l e rmX7_findKin s m ([.ref h, .int p0] : List Value).toArray below meth c H locs 0 0 Q (F0 m 135 ls []) := by
              intro turns_88 lineT_89 lineU_90 kinds_91 q_92 base_93 least_94 table_95 rows_96 lists_97 listSize_98 tried_99 line_100 makers_101 touches_102 made_103 kindForm_104 kindTurns_105 kindWays_106 H locs ls hP hD hS hl hF
              have hF := ka19 e_k135 hF
              obtain ⟨x2_107, e_x2_107, hF⟩ := nm_ex hF
              refine lv_iinc (v := x2_107) (lv' := [(2, .int x2_107), (0, .ref h)]) hx hb dX7_findKin_135 hl (k := 1) rfl (by rw [e_x2_107]; rfl) (by decide) rfl (fun ls hl => ?_)
              refine lv_goto (tgt := 52) hx hb dX7_findKin_138 (by decide) ?_
              exact ih52 x2_107 turns_88 lineT_89 lineU_90 kinds_91 q_92 base_93 least_94 table_95 rows_96 lists_97 listSize_98 tried_99 line_100 makers_101 touches_102 made_103 kindForm_104 kindTurns_105 kindWays_106 H locs ls hP hD hS (lv_sub hl [1, 0] rfl) hF
            clear e_k135
            have hL62 : ∀ n : Nat, ∀ (x3_40 : Int32) (turns_41 : Int32) (lineT_42 : Int32) (lineU_43 : Int32) (kinds_44 : Int32) (q_45 : Nat → Int64) (base_46 : Nat → Int64) (least_47 : Nat → Int64) (table_48 : Nat → Int64) (rows_49 : Nat → Int64) (lists_50 : Nat → Int64) (listSize_51 : Nat → Int32) (tried_52 : Nat → Int64) (line_53 : Nat → Int64) (makers_54 : Nat → Int64) (touches_55 : Nat → Int64) (made_56 : Nat → Int64) (kindForm_57 : Nat → Int64) (kindTurns_58 : Nat → Int32) (kindWays_59 : Nat → Int32) (H : Heap) (locs : List Loc) (ls : Array Slot), va_P (dC, dI) vwCl (mW cI cJ h a forms prime turns_41 lineT_42 lineU_43 kinds_44 upper lower numbers q_45 base_46 least_47 table_48 rows_49 lists_50 listSize_51 tried_52 other line_53 makers_54 touches_55 made_56 kindForm_57 kindTurns_58 kindWays_59) H → va_D A (mW cI cJ h a forms prime turns_41 lineT_42 lineU_43 kinds_44 upper lower numbers q_45 base_46 least_47 table_48 rows_49 lists_50 listSize_51 tried_52 other line_53 makers_54 touches_55 made_56 kindForm_57 kindTurns_58 kindWays_59) → va_S A s.heap H locs → lv_has ls 5 [(0, .ref h), (2, .int x2_20), (3, .int x3_40)] → fX7_findKin_L62 prime k135 fu x2_20 n x3_40 turns_41 lineT_42 lineU_43 kinds_44 q_45 base_46 least_47 table_48 rows_49 lists_50 listSize_51 tried_52 line_53 makers_54 touches_55 made_56 kindForm_57 kindTurns_58 kindWays_59 = some (ro, o_turns, o_lineT, o_lineU, o_kinds, o_q, o_base, o_least, o_table, o_rows, o_lists, o_listSize, o_tried, o_line, o_makers, o_touches, o_made, o_kindForm, o_kindTurns, o_kindWays) → W p l e rmX7_findKin s m ([.ref h, .int p0] : List Value).toArray below meth c H locs 0 0 Q (F0 m 62 ls []) := by
              intro n
              induction n with
              | zero => intro x3_40 turns_41 lineT_42 lineU_43 kinds_44 q_45 base_46 least_47 table_48 rows_49 lists_50 listSize_51 tried_52 line_53 makers_54 touches_55 made_56 kindForm_57 kindTurns_58 kindWays_59 H locs ls hP hD hS hl hF; rw [fX7_findKin_L62] at hF; cases hF
              | succ n ih62 =>
                intro x3_40 turns_41 lineT_42 lineU_43 kinds_44 q_45 base_46 least_47 table_48 rows_49 lists_50 listSize_51 tried_52 line_53 makers_54 touches_55 made_56 kindForm_57 kindTurns_58 kindWays_59 H locs ls hP hD hS hl hF
                rw [fX7_findKin_L62] at hF
                refine lv_iload_n hx hb dX7_findKin_62 rfl (lv_at hl 2 rfl) ?_
                refine lv_aload_n hx hb dX7_findKin_63 rfl (lv_at hl 0 rfl) ?_
                refine va_get (D := (dC, dI)) (ci := 5) (v := .int prime) (C := RX7) (T := TX7) (N := 25) hx hb hts hinX7 hown hK hP 0 rfl rfl 2 (by decide) hf_13 (fun _ h9 => h9) rfl dX7_findKin_64 ?_
                refine lv_icmp_gt (tgt := 135) hx hb dX7_findKin_67 (by decide) (fun c0 => ?_) (fun c0 => ?_)
                · have hF := if_t hF c0
                  exact hk135 turns_41 lineT_42 lineU_43 kinds_44 q_45 base_46 least_47 table_48 rows_49 lists_50 listSize_51 tried_52 line_53 makers_54 touches_55 made_56 kindForm_57 kindTurns_58 kindWays_59 H locs ls hP hD hS (lv_sub hl [0, 1] rfl) hF
                · have hF := if_f hF c0
                  refine lv_aload_n hx hb dX7_findKin_70 rfl (lv_at hl 0 rfl) ?_
                  refine lv_iload_n hx hb dX7_findKin_71 rfl (lv_at hl 1 rfl) ?_
                  obtain ⟨q_60, hc, hF⟩ := bd1_of hF
                  refine mc_v (va_runV (As := [.int x2_20]) (rest := []) ⟨hx, hb, hml, hown, hts⟩ (c_X7_holdKind l dC dI cI cJ h a fu H.size forms prime turns_41 lineT_42 lineU_43 kinds_44 upper lower numbers q_45 base_46 least_47 table_48 rows_49 lists_50 listSize_51 tried_52 other line_53 makers_54 touches_55 made_56 kindForm_57 kindTurns_58 kindWays_59 x2_20 q_60 hc) (cwV 1 hts g_X7_findKin_X7_holdKind rfl rfl rfl (by decide +kernel) ⟨Nat.le_of_ble_eq_true rfl, Nat.le_of_ble_eq_true rfl⟩) ⟨mPc_blind, va_recv hK hP (ci := 5) (q0 := 0) rfl rfl, mPc_at hK hP hD⟩ rfl rfl hl.1 rfl (lv_room (Nat.le_of_ble_eq_true rfl)) dX7_findKin_72 ⟨Nat.zero_le _, Nat.zero_le _⟩) hS (fr_all hD hS hA) (fun H locs hP hD hS => ?_)
                  refine lv_aload_n hx hb dX7_findKin_75 rfl (lv_at hl 0 rfl) ?_
                  refine lv_iload_n hx hb dX7_findKin_76 rfl (lv_at hl 2 rfl) ?_
                  obtain ⟨turns_61, lineT_62, lineU_63, q_64, base_65, least_66, table_67, rows_68, lists_69, listSize_70, tried_71, line_72, makers_73, touches_74, made_75, hc, hF⟩ := bd15_of hF
                  refine mc_v (va_runV (As := [.int x3_40]) (rest := []) ⟨hx, hb, hml, hown, hts⟩ (c_X7_findNeighbour l dC dI cI cJ h a fu H.size forms prime turns_41 lineT_42 lineU_43 kinds_44 upper lower numbers q_60 base_46 least_47 table_48 rows_49 lists_50 listSize_51 tried_52 other line_53 makers_54 touches_55 made_56 kindForm_57 kindTurns_58 kindWays_59 x3_40 turns_61 lineT_62 lineU_63 q_64 base_65 least_66 table_67 rows_68 lists_69 listSize_70 tried_71 line_72 makers_73 touches_74 made_75 hc) (cwV 1 hts g_X7_findKin_X7_findNeighbour rfl rfl rfl (by decide +kernel) ⟨Nat.le_of_ble_eq_true rfl, Nat.le_of_ble_eq_true rfl⟩) ⟨mPc_blind, va_recv hK hP (ci := 5) (q0 := 0) rfl rfl, mPc_at hK hP hD⟩ rfl rfl hl.1 rfl (lv_room (Nat.le_of_ble_eq_true rfl)) dX7_findKin_77 ⟨Nat.zero_le _, Nat.zero_le _⟩) hS (fr_all hD hS hA) (fun H locs hP hD hS => ?_)
                  refine lv_aload_n hx hb dX7_findKin_80 rfl (lv_at hl 0 rfl) ?_
                  obtain ⟨r_76, hc, hF⟩ := bd1_of hF
                  refine rc_i (va_runV (As := []) (rest := []) ⟨hx, hb, hml, hown, hts⟩ (c_X7_kindOfLeast l dC dI cI cJ h a fu forms prime turns_61 lineT_62 lineU_63 kinds_44 upper lower numbers q_64 base_65 least_66 table_67 rows_68 lists_69 listSize_70 tried_71 other line_72 makers_73 touches_74 made_75 kindForm_57 kindTurns_58 kindWays_59  r_76 hc) (cwV 0 hts g_X7_findKin_X7_kindOfLeast rfl rfl rfl (by decide +kernel) ⟨Nat.le_of_ble_eq_true rfl, Nat.le_of_ble_eq_true rfl⟩) ⟨rPc_blind, va_recv hK hP (ci := 5) (q0 := 0) rfl rfl, rPc_at hK hP⟩ rfl rfl hl.1 rfl (lv_room (Nat.le_of_ble_eq_true rfl)) dX7_findKin_81 ⟨Nat.zero_le _, Nat.zero_le _⟩) ?_
                  refine lv_istore (lv' := [(4, .int r_76), (0, .ref h), (2, .int x2_20), (3, .int x3_40)]) hx hb dX7_findKin_84 hl (by decide) rfl (fun ls hl => ?_)
                  refine lv_iload hx hb dX7_findKin_86 (lv_at hl 0 rfl) ?_
                  obtain ⟨k113, e_k113, hF⟩ := nm_ex hF
                  have hk113 : ∀ (x4_80 : Int32) (kinds_81 : Int32) (kindForm_82 : Nat → Int64) (kindTurns_83 : Nat → Int32) (H : Heap) (locs : List Loc) (ls : Array Slot), va_P (dC, dI) vwCl (mW cI cJ h a forms prime turns_61 lineT_62 lineU_63 kinds_81 upper lower numbers q_64 base_65 least_66 table_67 rows_68 lists_69 listSize_70 tried_71 other line_72 makers_73 touches_74 made_75 kindForm_82 kindTurns_83 kindWays_59) H → va_D A (mW cI cJ h a forms prime turns_61 lineT_62 lineU_63 kinds_81 upper lower numbers q_64 base_65 least_66 table_67 rows_68 lists_69 listSize_70 tried_71 other line_72 makers_73 touches_74 made_75 kindForm_82 kindTurns_83 kindWays_59) → va_S A s.heap H locs → lv_has ls 5 [(0, .ref h), (2, .int x2_20), (3, .int x3_40), (4, .int x4_80)] → k113 x4_80 kinds_81 kindForm_82 kindTurns_83 = some (ro, o_turns, o_lineT, o_lineU, o_kinds, o_q, o_base, o_least, o_table, o_rows, o_lists, o_listSize, o_tried, o_line, o_makers, o_touches, o_made, o_kindForm, o_kindTurns, o_kindWays) → W p l e rmX7_findKin s m ([.ref h, .int p0] : List Value).toArray below meth c H locs 0 0 Q (F0 m 113 ls []) := by
                    intro x4_80 kinds_81 kindForm_82 kindTurns_83 H locs ls hP hD hS hl hF
                    have hF := ka4 e_k113 hF
                    refine lv_aload_n hx hb dX7_findKin_113 rfl (lv_at hl 0 rfl) ?_
                    refine va_get (D := (dC, dI)) (ci := 5) (v := .ref (a 17)) (C := RX7) (T := TX7) (N := 25) hx hb hts hinX7 hown hK hP 0 rfl rfl 22 (by decide) hf_63 (fun _ h9 => h9) rfl dX7_findKin_114 ?_
                    refine lv_bipush (v := (16)) hx hb dX7_findKin_117 (by decide) ?_
                    refine lv_iload_n hx hb dX7_findKin_119 rfl (lv_at hl 1 rfl) ?_
                    refine lv_imul hx hb dX7_findKin_120 ?_
                    refine lv_iload hx hb dX7_findKin_121 (lv_at hl 3 rfl) ?_
                    refine lv_iadd hx hb dX7_findKin_123 ?_
                    refine lv_dup2_11 hx hb dX7_findKin_124 rfl rfl ?_
                    refine lv_topi (fun v_84 e_v_84 => ?_)
                    have hF := nm_at hF e_v_84
                    obtain ⟨hi, hF⟩ := ck_of hF
                    refine va_iald hx hb hK hP 17 0 rfl rfl hi dX7_findKin_125 ?_
                    refine lv_iconst (v := 1) hx hb dX7_findKin_126 (by decide) ?_
                    refine lv_iadd hx hb dX7_findKin_127 ?_
                    obtain ⟨v_85, e_v_85, hF⟩ := nm_ex hF
                    rw [← e_v_85]
                    obtain ⟨hi, hF⟩ := ck_of hF
                    obtain ⟨kindWays_86, e_kindWays_86, hF⟩ := nm_ex hF
                    refine kc_iast (j := v_85.toNatClampNeg) (g := kindWays_86) hx hb hK hP hD hS 17 0 rfl rfl rfl hi dX7_findKin_128 e_kindWays_86 (fun H locs hP hD hS => ?_)
                    have hP : va_P (dC, dI) vwCl (mW cI cJ h a forms prime turns_61 lineT_62 lineU_63 kinds_81 upper lower numbers q_64 base_65 least_66 table_67 rows_68 lists_69 listSize_70 tried_71 other line_72 makers_73 touches_74 made_75 kindForm_82 kindTurns_83 kindWays_86) H := hP
                    have hD : va_D A (mW cI cJ h a forms prime turns_61 lineT_62 lineU_63 kinds_81 upper lower numbers q_64 base_65 least_66 table_67 rows_68 lists_69 listSize_70 tried_71 other line_72 makers_73 touches_74 made_75 kindForm_82 kindTurns_83 kindWays_86) := hD
                    obtain ⟨x3_87, e_x3_87, hF⟩ := nm_ex hF
                    refine lv_iinc (v := x3_87) (lv' := [(3, .int x3_87), (0, .ref h), (2, .int x2_20), (4, .int x4_80)]) hx hb dX7_findKin_129 hl (k := 2) rfl (by rw [e_x3_87]; rfl) (by decide) rfl (fun ls hl => ?_)
                    refine lv_goto (tgt := 62) hx hb dX7_findKin_132 (by decide) ?_
                    exact ih62 x3_87 turns_61 lineT_62 lineU_63 kinds_81 q_64 base_65 least_66 table_67 rows_68 lists_69 listSize_70 tried_71 line_72 makers_73 touches_74 made_75 kindForm_82 kindTurns_83 kindWays_86 H locs ls hP hD hS (lv_sub hl [1, 2, 0] rfl) hF
                  clear e_k113
                  refine lv_if_ge (tgt := 113) hx hb dX7_findKin_88 (by decide) (fun c0 => ?_) (fun c0 => ?_)
                  · have hF := if_t hF c0
                    exact hk113 r_76 kinds_44 kindForm_57 kindTurns_58 H locs ls hP hD hS (lv_sub hl [1, 2, 3, 0] rfl) hF
                  · have hF := if_f hF c0
                    refine lv_aload_n hx hb dX7_findKin_91 rfl (lv_at hl 1 rfl) ?_
                    refine va_get (D := (dC, dI)) (ci := 5) (v := .int kinds_44) (C := RX7) (T := TX7) (N := 25) hx hb hts hinX7 hown hK hP 0 rfl rfl 19 (by decide) hf_221 (fun _ h9 => h9) rfl dX7_findKin_92 ?_
                    refine lv_istore (lv' := [(4, .int kinds_44), (0, .ref h), (2, .int x2_20), (3, .int x3_40)]) hx hb dX7_findKin_95 hl (by decide) rfl (fun ls hl => ?_)
                    refine lv_aload_n hx hb dX7_findKin_97 rfl (lv_at hl 1 rfl) ?_
                    obtain ⟨kinds_77, kindForm_78, kindTurns_79, hc, hF⟩ := bd3_of hF
                    refine mc_v (va_runV (As := []) (rest := []) ⟨hx, hb, hml, hown, hts⟩ (c_X7_addKind l dC dI cI cJ h a fu H.size forms prime turns_61 lineT_62 lineU_63 kinds_44 upper lower numbers q_64 base_65 least_66 table_67 rows_68 lists_69 listSize_70 tried_71 other line_72 makers_73 touches_74 made_75 kindForm_57 kindTurns_58 kindWays_59  kinds_77 kindForm_78 kindTurns_79 hc) (cwV 0 hts g_X7_findKin_X7_addKind rfl rfl rfl (by decide +kernel) ⟨Nat.le_of_ble_eq_true rfl, Nat.le_of_ble_eq_true rfl⟩) ⟨mPc_blind, va_recv hK hP (ci := 5) (q0 := 0) rfl rfl, mPc_at hK hP hD⟩ rfl rfl hl.1 rfl (lv_room (Nat.le_of_ble_eq_true rfl)) dX7_findKin_98 ⟨Nat.zero_le _, Nat.zero_le _⟩) hS (fr_all hD hS hA) (fun H locs hP hD hS => ?_)
                    refine lv_aload_n hx hb dX7_findKin_101 rfl (lv_at hl 1 rfl) ?_
                    refine va_get (D := (dC, dI)) (ci := 5) (v := .int kinds_77) (C := RX7) (T := TX7) (N := 25) hx hb hts hinX7 hown hK hP 0 rfl rfl 19 (by decide) hf_221 (fun _ h9 => h9) rfl dX7_findKin_102 ?_
                    refine lv_bipush (v := (16)) hx hb dX7_findKin_105 (by decide) ?_
                    refine lv_icmp_le (tgt := 113) hx hb dX7_findKin_107 (by decide) (fun c0 => ?_) (fun c0 => ?_)
                    · have hF := if_t hF c0
                      exact hk113 kinds_44 kinds_77 kindForm_78 kindTurns_79 H locs ls hP hD hS (lv_sub hl [1, 2, 3, 0] rfl) hF
                    · have hF := if_f hF c0
                      refine lv_ldc (v := (-100005)) hx hb hown (hlk (.constant RX7 234 (-100005)) (by decide +kernel)) dX7_findKin_110 ?_
                      obtain ⟨q0, q1, q2, q3, q4, q5, q6, q7, q8, q9, q10, q11, q12, q13, q14, q15, q16, q17, q18, q19⟩ := sm20 hF
                      have hP : va_P (dC, dI) vwCl (mW cI cJ h a forms prime o_turns o_lineT o_lineU o_kinds upper lower numbers o_q o_base o_least o_table o_rows o_lists o_listSize o_tried other o_line o_makers o_touches o_made o_kindForm o_kindTurns o_kindWays) H := by rw [← q1, ← q2, ← q3, ← q4, ← q5, ← q6, ← q7, ← q8, ← q9, ← q10, ← q11, ← q12, ← q13, ← q14, ← q15, ← q16, ← q17, ← q18, ← q19]; exact hP
                      have hD : va_D A (mW cI cJ h a forms prime o_turns o_lineT o_lineU o_kinds upper lower numbers o_q o_base o_least o_table o_rows o_lists o_listSize o_tried other o_line o_makers o_touches o_made o_kindForm o_kindTurns o_kindWays) := by rw [← q1, ← q2, ← q3, ← q4, ← q5, ← q6, ← q7, ← q8, ← q9, ← q10, ← q11, ← q12, ← q13, ← q14, ← q15, ← q16, ← q17, ← q18, ← q19]; exact hD
                      refine W_Qe hQ ?_
                      exact W.iret hx hb hr (fun t ht hW => ⟨⟨(-100005 : Int32), (), rfl, q0, by rw [ht]; exact hP, va_K.moved hW.alike hK, hD⟩, hS.F ht⟩) hS.2.2 dX7_findKin_112
            exact hL62 fu (0 : Int32) turns_21 lineT_22 lineU_23 kinds_24 q_25 base_26 least_27 table_28 rows_29 lists_30 listSize_31 tried_32 line_33 makers_34 touches_35 made_36 kindForm_37 kindTurns_38 kindWays_39 H locs ls hP hD hS (lv_sub hl [1, 2, 0] rfl) hF
      exact hL52 fu (0 : Int32) turns_3 lineT lineU kinds_12 q_4 base_5 least_6 table_7 rows_8 lists_9 listSize_10 tried_11 line makers touches made kindForm_13 kindTurns_14 kindWays_19 H locs ls hP hD hS (lv_sub hl [1, 0] rfl) hF
    clear e_k50
    have hL30 : ∀ n : Nat, ∀ (x2_15 : Int32) (kindWays_16 : Nat → Int32) (H : Heap) (locs : List Loc) (ls : Array Slot), va_P (dC, dI) vwCl (mW cI cJ h a forms prime turns_3 lineT lineU kinds_12 upper lower numbers q_4 base_5 least_6 table_7 rows_8 lists_9 listSize_10 tried_11 other line makers touches made kindForm_13 kindTurns_14 kindWays_16) H → va_D A (mW cI cJ h a forms prime turns_3 lineT lineU kinds_12 upper lower numbers q_4 base_5 least_6 table_7 rows_8 lists_9 listSize_10 tried_11 other line makers touches made kindForm_13 kindTurns_14 kindWays_16) → va_S A s.heap H locs → lv_has ls 5 [(0, .ref h), (2, .int x2_15)] → fX7_findKin_L30 k50 n x2_15 kindWays_16 = some (ro, o_turns, o_lineT, o_lineU, o_kinds, o_q, o_base, o_least, o_table, o_rows, o_lists, o_listSize, o_tried, o_line, o_makers, o_touches, o_made, o_kindForm, o_kindTurns, o_kindWays) → W p l e rmX7_findKin s m ([.ref h, .int p0] : List Value).toArray below meth c H locs 0 0 Q (F0 m 30 ls []) := by
      intro n
      induction n with
      | zero => intro x2_15 kindWays_16 H locs ls hP hD hS hl hF; rw [fX7_findKin_L30] at hF; cases hF
      | succ n ih30 =>
        intro x2_15 kindWays_16 H locs ls hP hD hS hl hF
        rw [fX7_findKin_L30] at hF
        refine lv_iload_n hx hb dX7_findKin_30 rfl (lv_at hl 1 rfl) ?_
        refine lv_sipush (v := (272)) hx hb dX7_findKin_31 (by decide) ?_
        refine lv_icmp_ge (tgt := 50) hx hb dX7_findKin_34 (by decide) (fun c0 => ?_) (fun c0 => ?_)
        · have hF := if_t hF c0
          exact hk50 kindWays_16 H locs ls hP hD hS (lv_sub hl [0] rfl) hF
        · have hF := if_f hF c0
          refine lv_aload_n hx hb dX7_findKin_37 rfl (lv_at hl 0 rfl) ?_
          refine va_get (D := (dC, dI)) (ci := 5) (v := .ref (a 17)) (C := RX7) (T := TX7) (N := 25) hx hb hts hinX7 hown hK hP 0 rfl rfl 22 (by decide) hf_63 (fun _ h9 => h9) rfl dX7_findKin_38 ?_
          refine lv_iload_n hx hb dX7_findKin_41 rfl (lv_at hl 1 rfl) ?_
          refine lv_iconst (v := 0) hx hb dX7_findKin_42 (by decide) ?_
          obtain ⟨hi, hF⟩ := ck_of hF
          obtain ⟨kindWays_17, e_kindWays_17, hF⟩ := nm_ex hF
          refine kc_iast (j := x2_15.toNatClampNeg) (g := kindWays_17) hx hb hK hP hD hS 17 0 rfl rfl rfl hi dX7_findKin_43 e_kindWays_17 (fun H locs hP hD hS => ?_)
          have hP : va_P (dC, dI) vwCl (mW cI cJ h a forms prime turns_3 lineT lineU kinds_12 upper lower numbers q_4 base_5 least_6 table_7 rows_8 lists_9 listSize_10 tried_11 other line makers touches made kindForm_13 kindTurns_14 kindWays_17) H := hP
          have hD : va_D A (mW cI cJ h a forms prime turns_3 lineT lineU kinds_12 upper lower numbers q_4 base_5 least_6 table_7 rows_8 lists_9 listSize_10 tried_11 other line makers touches made kindForm_13 kindTurns_14 kindWays_17) := hD
          obtain ⟨x2_18, e_x2_18, hF⟩ := nm_ex hF
          refine lv_iinc (v := x2_18) (lv' := [(2, .int x2_18), (0, .ref h)]) hx hb dX7_findKin_44 hl (k := 1) rfl (by rw [e_x2_18]; rfl) (by decide) rfl (fun ls hl => ?_)
          refine lv_goto (tgt := 30) hx hb dX7_findKin_47 (by decide) ?_
          exact ih30 x2_18 kindWays_17 H locs ls hP hD hS (lv_sub hl [1, 0] rfl) hF
    exact hL30 fu (0 : Int32) kindWays H locs ls hP hD hS (lv_sub hl [1, 0] rfl) hF
  · have hF := if_f hF c0
    refine lv_ldc (v := (-100003)) hx hb hown (hlk (.constant RX7 171 (-100003)) (by decide +kernel)) dX7_findKin_12 ?_
    obtain ⟨q0, q1, q2, q3, q4, q5, q6, q7, q8, q9, q10, q11, q12, q13, q14, q15, q16, q17, q18, q19⟩ := sm20 hF
    have hP : va_P (dC, dI) vwCl (mW cI cJ h a forms prime o_turns o_lineT o_lineU o_kinds upper lower numbers o_q o_base o_least o_table o_rows o_lists o_listSize o_tried other o_line o_makers o_touches o_made o_kindForm o_kindTurns o_kindWays) H := by rw [← q1, ← q2, ← q3, ← q4, ← q5, ← q6, ← q7, ← q8, ← q9, ← q10, ← q11, ← q12, ← q13, ← q14, ← q15, ← q16, ← q17, ← q18, ← q19]; exact hP
    have hD : va_D A (mW cI cJ h a forms prime o_turns o_lineT o_lineU o_kinds upper lower numbers o_q o_base o_least o_table o_rows o_lists o_listSize o_tried other o_line o_makers o_touches o_made o_kindForm o_kindTurns o_kindWays) := by rw [← q1, ← q2, ← q3, ← q4, ← q5, ← q6, ← q7, ← q8, ← q9, ← q10, ← q11, ← q12, ← q13, ← q14, ← q15, ← q16, ← q17, ← q18, ← q19]; exact hD
    refine W_Qe hQ ?_
    exact W.iret hx hb hr (fun t ht hW => ⟨⟨(-100003 : Int32), (), rfl, q0, by rw [ht]; exact hP, va_K.moved hW.alike hK, hD⟩, hS.F ht⟩) hS.2.2 dX7_findKin_14
def fX7_kin (fu : Nat) (forms : Int32) (prime : Int32) (turns : Int32) (lineT : Int32) (lineU : Int32) (kinds : Int32) (numbers : Nat → Int32) (q : Nat → Int64) (base : Nat → Int64) (least : Nat → Int64) (table : Nat → Int64) (rows : Nat → Int64) (lists : Nat → Int64) (listSize : Nat → Int32) (tried : Nat → Int64) (line : Nat → Int64) (makers : Nat → Int64) (touches : Nat → Int64) (made : Nat → Int64) (kindForm : Nat → Int64) (kindTurns : Nat → Int32) (kindWays : Nat → Int32) (p0 : Int32) : Option (Int32 × (Int32) × (Int32) × (Int32) × (Int32) × (Nat → Int64) × (Nat → Int64) × (Nat → Int64) × (Nat → Int64) × (Nat → Int64) × (Nat → Int64) × (Nat → Int32) × (Nat → Int64) × (Nat → Int64) × (Nat → Int64) × (Nat → Int64) × (Nat → Int64) × (Nat → Int64) × (Nat → Int32) × (Nat → Int32)) :=
  bd1 (fX7_isForm forms p0) (fun (r_1 : Int32) => nm (fun (s_22 : Int32) (turns_23 : Int32) (lineT_24 : Int32) (lineU_25 : Int32) (kinds_26 : Int32) (q_27 : Nat → Int64) (base_28 : Nat → Int64) (least_29 : Nat → Int64) (table_30 : Nat → Int64) (rows_31 : Nat → Int64) (lists_32 : Nat → Int64) (listSize_33 : Nat → Int32) (tried_34 : Nat → Int64) (line_35 : Nat → Int64) (makers_36 : Nat → Int64) (touches_37 : Nat → Int64) (made_38 : Nat → Int64) (kindForm_39 : Nat → Int64) (kindTurns_40 : Nat → Int32) (kindWays_41 : Nat → Int32) => some (s_22, turns_23, lineT_24, lineU_25, kinds_26, q_27, base_28, least_29, table_30, rows_31, lists_32, listSize_33, tried_34, line_35, makers_36, touches_37, made_38, kindForm_39, kindTurns_40, kindWays_41)) (fun (k18 : (Int32) → (Int32) → (Int32) → (Int32) → (Int32) → (Nat → Int64) → (Nat → Int64) → (Nat → Int64) → (Nat → Int64) → (Nat → Int64) → (Nat → Int64) → (Nat → Int32) → (Nat → Int64) → (Nat → Int64) → (Nat → Int64) → (Nat → Int64) → (Nat → Int64) → (Nat → Int64) → (Nat → Int32) → (Nat → Int32) → Option (Int32 × (Int32) × (Int32) × (Int32) × (Int32) × (Nat → Int64) × (Nat → Int64) × (Nat → Int64) × (Nat → Int64) × (Nat → Int64) × (Nat → Int64) × (Nat → Int32) × (Nat → Int64) × (Nat → Int64) × (Nat → Int64) × (Nat → Int64) × (Nat → Int64) × (Nat → Int64) × (Nat → Int32) × (Nat → Int32))) => if r_1 = 0 then ((k18 (-100001 : Int32) turns lineT lineU kinds q base least table rows lists listSize tried line makers touches made kindForm kindTurns kindWays)) else (bd20 (fX7_findKin fu prime turns lineT lineU kinds numbers q base least table rows lists listSize tried line makers touches made kindForm kindTurns kindWays p0) (fun (r_2 : Int32) (turns_3 : Int32) (lineT_4 : Int32) (lineU_5 : Int32) (kinds_6 : Int32) (q_7 : Nat → Int64) (base_8 : Nat → Int64) (least_9 : Nat → Int64) (table_10 : Nat → Int64) (rows_11 : Nat → Int64) (lists_12 : Nat → Int64) (listSize_13 : Nat → Int32) (tried_14 : Nat → Int64) (line_15 : Nat → Int64) (makers_16 : Nat → Int64) (touches_17 : Nat → Int64) (made_18 : Nat → Int64) (kindForm_19 : Nat → Int64) (kindTurns_20 : Nat → Int32) (kindWays_21 : Nat → Int32) => (k18 r_2 turns_3 lineT_4 lineU_5 kinds_6 q_7 base_8 least_9 table_10 rows_11 lists_12 listSize_13 tried_14 line_15 makers_16 touches_17 made_18 kindForm_19 kindTurns_20 kindWays_21)))))
def lkX7_kin : List Cond := [.constant RX7 170 (-100001)]
def vX7_kin : List Cond := .code yX7_kin cX7_kin 2 (some .int) :: (lkX7_kin ++ (wsV RX7 166 RX7 yX7_isForm vX7_isForm ++ (wsV RX7 235 RX7 yX7_findKin vX7_findKin ++ ([]))))
theorem q_X7_kin : ∀ w ∈ vX7_kin, goodWord w = true := gd_cons rfl (gd_app (by decide +kernel) (gd_app (gd_V q_X7_isForm) (gd_app (gd_V q_X7_findKin) gd_nil)))
theorem g_X7_kin_X7_isForm : GoodIn vX7_kin (wsV RX7 166 RX7 yX7_isForm vX7_isForm) := gi_of (fun w h => List.mem_cons_of_mem _ (List.mem_append_right _ (List.mem_append_left _ h))) (gd_V q_X7_isForm)
theorem g_X7_kin_X7_findKin : GoodIn vX7_kin (wsV RX7 235 RX7 yX7_findKin vX7_findKin) := gi_of (fun w h => List.mem_cons_of_mem _ (List.mem_append_right _ (List.mem_append_right _ (List.mem_append_left _ h)))) (gd_V q_X7_findKin)
abbrev rmX7_kin : Room := { frames := 7, cells := 0, slots := 0, locals := 192 }
set_option maxHeartbeats 4000000 in
set_option maxRecDepth 100000 in
theorem c_X7_kin (l : Launch) (dC : Nat → ClassId) (dI : Nat → Nat → Nat) (cI : ClassId) (cJ : ClassId) (h : Nat) (a : Nat → Nat) (fu : Nat) (sz : Nat) (forms : Int32) (prime : Int32) (turns : Int32) (lineT : Int32) (lineU : Int32) (kinds : Int32) (upper : Int64) (lower : Int64) (numbers : Nat → Int32) (q : Nat → Int64) (base : Nat → Int64) (least : Nat → Int64) (table : Nat → Int64) (rows : Nat → Int64) (lists : Nat → Int64) (listSize : Nat → Int32) (tried : Nat → Int64) (other : Nat → Int64) (line : Nat → Int64) (makers : Nat → Int64) (touches : Nat → Int64) (made : Nat → Int64) (kindForm : Nat → Int64) (kindTurns : Nat → Int32) (kindWays : Nat → Int32) (p0 : Int32) (ro : Int32) (o_turns : Int32) (o_lineT : Int32) (o_lineU : Int32) (o_kinds : Int32) (o_q : Nat → Int64) (o_base : Nat → Int64) (o_least : Nat → Int64) (o_table : Nat → Int64) (o_rows : Nat → Int64) (o_lists : Nat → Int64) (o_listSize : Nat → Int32) (o_tried : Nat → Int64) (o_line : Nat → Int64) (o_makers : Nat → Int64) (o_touches : Nat → Int64) (o_made : Nat → Int64) (o_kindForm : Nat → Int64) (o_kindTurns : Nat → Int32) (o_kindWays : Nat → Int32) (hF : fX7_kin fu forms prime turns lineT lineU kinds numbers q base least table rows lists listSize tried line makers touches made kindForm kindTurns kindWays p0 = some (ro, o_turns, o_lineT, o_lineU, o_kinds, o_q, o_base, o_least, o_table, o_rows, o_lists, o_listSize, o_tried, o_line, o_makers, o_touches, o_made, o_kindForm, o_kindTurns, o_kindWays)) : Met l yX7_kin vX7_kin rmX7_kin (va_Pc [.ref h, .int p0] (mPc (dC, dI) vwCl (mW cI cJ h a forms prime turns lineT lineU kinds upper lower numbers q base least table rows lists listSize tried other line makers touches made kindForm kindTurns kindWays) [(cI, .int), (cJ, .long)] sz)) (va_Qi (fun x (_ : Unit) => x = ro) (mPo (dC, dI) vwCl (mW cI cJ h a forms prime o_turns o_lineT o_lineU o_kinds upper lower numbers o_q o_base o_least o_table o_rows o_lists o_listSize o_tried other o_line o_makers o_touches o_made o_kindForm o_kindTurns o_kindWays) [(cI, .int), (cJ, .long)] (va_A (mW cI cJ h a forms prime turns lineT lineU kinds upper lower numbers q base least table rows lists listSize tried other line makers touches made kindForm kindTurns kindWays) sz)) (va_A (mW cI cJ h a forms prime turns lineT lineU kinds upper lower numbers q base least table rows lists listSize tried other line makers touches made kindForm kindTurns kindWays) sz)) 0 0 (va_A (mW cI cJ h a forms prime turns lineT lineU kinds upper lower numbers q base least table rows lists listSize tried other line makers touches made kindForm kindTurns kindWays) sz) := by
  refine Met.ofW (cc := cX7_kin) (maxL := 2) (ret := (some .int)) (by decide) rfl ?_
  intro p e s m args below meth c s₁ B hml hv
  obtain ⟨rfl, hsz, hP, hK, hD0⟩ := hv
  have hx := B.exec
  have hb := B.bytes
  have hr := B.returns
  have hts := atoms_spec (ws := vX7_kin) B.pre
  have hlk : ∀ w ∈ lkX7_kin, w.before _ s = true := fun w h => hts w (List.mem_cons_of_mem _ (List.mem_append_left _ h))
  have hown : s.vm.findClass RX7 = some m.cls := findClass_of_methodNamed B.named
  have hlocks := B.notSynchronized
  subst hsz
  have hD := hD0.self (sz := s.heap.size)
  generalize hAe : va_A (mW cI cJ h a forms prime turns lineT lineU kinds upper lower numbers q base least table rows lists listSize tried other line makers touches made kindForm kindTurns kindWays) s.heap.size = A at hD ⊢
  have hA : ∀ q : Nat, s.heap.size ≤ q → A q := fun q h => by rw [← hAe]; exact Or.inr h
  have hS : va_S A s.heap s.heap [] := va_S.rf
  have hl := lv_entry ([.ref h, .int p0] : List Value) (n := 2) (Nat.le_of_ble_eq_true rfl)
  rw [lg_entry_eq]
  generalize (lg_sl ([.ref h, .int p0] : List Value) ++ List.replicate (2 - (lg_sl ([.ref h, .int p0] : List Value)).length) Slot.unset).toArray = ls at hl ⊢
  have hl : lv_has ls 2 [(0, .ref h), (1, .int p0)] := hl
  unfold fX7_kin at hF
  refine W_Q (fun Q hQ => ?_)
  have hP : va_P (dC, dI) vwCl (mW cI cJ h a forms prime turns lineT lineU kinds upper lower numbers q base least table rows lists listSize tried other line makers touches made kindForm kindTurns kindWays) s.heap := hP
  refine W_HL (fun H locs eH eL => ?_)
  rw [← eH] at hP
  have hS : va_S A s.heap H locs := by rw [eH, eL]; exact hS
  refine lv_aload_n hx hb dX7_kin_0 rfl (lv_at hl 0 rfl) ?_
  refine lv_iload_n hx hb dX7_kin_1 rfl (lv_at hl 1 rfl) ?_
  obtain ⟨r_1, hc, hF⟩ := bd1_of hF
  refine rc_i (va_runV (As := [.int p0]) (rest := []) ⟨hx, hb, hml, hown, hts⟩ (c_X7_isForm l dC dI cI cJ h a forms prime turns lineT lineU kinds upper lower numbers q base least table rows lists listSize tried other line makers touches made kindForm kindTurns kindWays p0 r_1 hc) (cwV 1 hts g_X7_kin_X7_isForm rfl rfl rfl (by decide +kernel) ⟨Nat.le_of_ble_eq_true rfl, Nat.le_of_ble_eq_true rfl⟩) ⟨rPc_blind, va_recv hK hP (ci := 5) (q0 := 0) rfl rfl, rPc_at hK hP⟩ rfl rfl hl.1 rfl (lv_room (Nat.le_of_ble_eq_true rfl)) dX7_kin_2 ⟨Nat.zero_le _, Nat.zero_le _⟩) ?_
  obtain ⟨k18, e_k18, hF⟩ := nm_ex hF
  have hk18 : ∀ (s_22 : Int32) (turns_23 : Int32) (lineT_24 : Int32) (lineU_25 : Int32) (kinds_26 : Int32) (q_27 : Nat → Int64) (base_28 : Nat → Int64) (least_29 : Nat → Int64) (table_30 : Nat → Int64) (rows_31 : Nat → Int64) (lists_32 : Nat → Int64) (listSize_33 : Nat → Int32) (tried_34 : Nat → Int64) (line_35 : Nat → Int64) (makers_36 : Nat → Int64) (touches_37 : Nat → Int64) (made_38 : Nat → Int64) (kindForm_39 : Nat → Int64) (kindTurns_40 : Nat → Int32) (kindWays_41 : Nat → Int32) (H : Heap) (locs : List Loc) (ls : Array Slot), va_P (dC, dI) vwCl (mW cI cJ h a forms prime turns_23 lineT_24 lineU_25 kinds_26 upper lower numbers q_27 base_28 least_29 table_30 rows_31 lists_32 listSize_33 tried_34 other line_35 makers_36 touches_37 made_38 kindForm_39 kindTurns_40 kindWays_41) H → va_D A (mW cI cJ h a forms prime turns_23 lineT_24 lineU_25 kinds_26 upper lower numbers q_27 base_28 least_29 table_30 rows_31 lists_32 listSize_33 tried_34 other line_35 makers_36 touches_37 made_38 kindForm_39 kindTurns_40 kindWays_41) → va_S A s.heap H locs → lv_has ls 2 [] → k18 s_22 turns_23 lineT_24 lineU_25 kinds_26 q_27 base_28 least_29 table_30 rows_31 lists_32 listSize_33 tried_34 line_35 makers_36 touches_37 made_38 kindForm_39 kindTurns_40 kindWays_41 = some (ro, o_turns, o_lineT, o_lineU, o_kinds, o_q, o_base, o_least, o_table, o_rows, o_lists, o_listSize, o_tried, o_line, o_makers, o_touches, o_made, o_kindForm, o_kindTurns, o_kindWays) → W p l e rmX7_kin s m ([.ref h, .int p0] : List Value).toArray below meth c H locs 0 0 Q (F0 m 18 ls [.int s_22]) := by
    intro s_22 turns_23 lineT_24 lineU_25 kinds_26 q_27 base_28 least_29 table_30 rows_31 lists_32 listSize_33 tried_34 line_35 makers_36 touches_37 made_38 kindForm_39 kindTurns_40 kindWays_41 H locs ls hP hD hS hl hF
    have hF := ka20 e_k18 hF
    obtain ⟨q0, q1, q2, q3, q4, q5, q6, q7, q8, q9, q10, q11, q12, q13, q14, q15, q16, q17, q18, q19⟩ := sm20 hF
    have hP : va_P (dC, dI) vwCl (mW cI cJ h a forms prime o_turns o_lineT o_lineU o_kinds upper lower numbers o_q o_base o_least o_table o_rows o_lists o_listSize o_tried other o_line o_makers o_touches o_made o_kindForm o_kindTurns o_kindWays) H := by rw [← q1, ← q2, ← q3, ← q4, ← q5, ← q6, ← q7, ← q8, ← q9, ← q10, ← q11, ← q12, ← q13, ← q14, ← q15, ← q16, ← q17, ← q18, ← q19]; exact hP
    have hD : va_D A (mW cI cJ h a forms prime o_turns o_lineT o_lineU o_kinds upper lower numbers o_q o_base o_least o_table o_rows o_lists o_listSize o_tried other o_line o_makers o_touches o_made o_kindForm o_kindTurns o_kindWays) := by rw [← q1, ← q2, ← q3, ← q4, ← q5, ← q6, ← q7, ← q8, ← q9, ← q10, ← q11, ← q12, ← q13, ← q14, ← q15, ← q16, ← q17, ← q18, ← q19]; exact hD
    refine W_Qe hQ ?_
    exact W.iret hx hb hr (fun t ht hW => ⟨⟨s_22, (), rfl, q0, by rw [ht]; exact hP, va_K.moved hW.alike hK, hD⟩, hS.F ht⟩) hS.2.2 dX7_kin_18
  clear e_k18
  refine lv_if_eq (tgt := 16) hx hb dX7_kin_5 (by decide) (fun c0 => ?_) (fun c0 => ?_)
  · have hF := if_t hF c0
    refine lv_ldc (v := (-100001)) hx hb hown (hlk (.constant RX7 170 (-100001)) (by decide +kernel)) dX7_kin_16 ?_
    exact hk18 (-100001 : Int32) turns lineT lineU kinds q base least table rows lists listSize tried line makers touches made kindForm kindTurns kindWays H locs ls hP hD hS (lv_sub hl [] rfl) hF
  · have hF := if_f hF c0
    refine lv_aload_n hx hb dX7_kin_8 rfl (lv_at hl 0 rfl) ?_
    refine lv_iload_n hx hb dX7_kin_9 rfl (lv_at hl 1 rfl) ?_
    obtain ⟨r_2, turns_3, lineT_4, lineU_5, kinds_6, q_7, base_8, least_9, table_10, rows_11, lists_12, listSize_13, tried_14, line_15, makers_16, touches_17, made_18, kindForm_19, kindTurns_20, kindWays_21, hc, hF⟩ := bd20_of hF
    refine mc_i (va_runV (As := [.int p0]) (rest := []) ⟨hx, hb, hml, hown, hts⟩ (c_X7_findKin l dC dI cI cJ h a fu H.size forms prime turns lineT lineU kinds upper lower numbers q base least table rows lists listSize tried other line makers touches made kindForm kindTurns kindWays p0 r_2 turns_3 lineT_4 lineU_5 kinds_6 q_7 base_8 least_9 table_10 rows_11 lists_12 listSize_13 tried_14 line_15 makers_16 touches_17 made_18 kindForm_19 kindTurns_20 kindWays_21 hc) (cwV 1 hts g_X7_kin_X7_findKin rfl rfl rfl (by decide +kernel) ⟨Nat.le_of_ble_eq_true rfl, Nat.le_of_ble_eq_true rfl⟩) ⟨mPc_blind, va_recv hK hP (ci := 5) (q0 := 0) rfl rfl, mPc_at hK hP hD⟩ rfl rfl hl.1 rfl (lv_room (Nat.le_of_ble_eq_true rfl)) dX7_kin_10 ⟨Nat.zero_le _, Nat.zero_le _⟩) hS (fr_all hD hS hA) (fun H locs hP hD hS => ?_)
    refine lv_goto (tgt := 18) hx hb dX7_kin_13 (by decide) ?_
    exact hk18 r_2 turns_3 lineT_4 lineU_5 kinds_6 q_7 base_8 least_9 table_10 rows_11 lists_12 listSize_13 tried_14 line_15 makers_16 touches_17 made_18 kindForm_19 kindTurns_20 kindWays_21 H locs ls hP hD hS (lv_sub hl [] rfl) hF
def fX7_kind (fu : Nat) (forms : Int32) (prime : Int32) (turns : Int32) (lineT : Int32) (lineU : Int32) (kinds : Int32) (numbers : Nat → Int32) (q : Nat → Int64) (base : Nat → Int64) (least : Nat → Int64) (table : Nat → Int64) (rows : Nat → Int64) (lists : Nat → Int64) (listSize : Nat → Int32) (tried : Nat → Int64) (line : Nat → Int64) (makers : Nat → Int64) (touches : Nat → Int64) (made : Nat → Int64) (kindForm : Nat → Int64) (kindTurns : Nat → Int32) (kindWays : Nat → Int32) (p0 : Int32) (p1 : Int32) (p2 : Int32) : Option (Int32 × (Int32) × (Int32) × (Int32) × (Int32) × (Nat → Int64) × (Nat → Int64) × (Nat → Int64) × (Nat → Int64) × (Nat → Int64) × (Nat → Int64) × (Nat → Int32) × (Nat → Int64) × (Nat → Int64) × (Nat → Int64) × (Nat → Int64) × (Nat → Int64) × (Nat → Int64) × (Nat → Int32) × (Nat → Int32)) :=
  bd1 (fX7_isForm forms p0) (fun (r_1 : Int32) => if r_1 = 0 then (some ((-100001 : Int32), turns, lineT, lineU, kinds, q, base, least, table, rows, lists, listSize, tried, line, makers, touches, made, kindForm, kindTurns, kindWays)) else (bd1 (fX7_in p2.toInt64 (0 : Int64) (6 : Int64)) (fun (r_2 : Int32) => if r_2 = 0 then (some ((-100002 : Int32), turns, lineT, lineU, kinds, q, base, least, table, rows, lists, listSize, tried, line, makers, touches, made, kindForm, kindTurns, kindWays)) else (bd20 (fX7_findKin fu prime turns lineT lineU kinds numbers q base least table rows lists listSize tried line makers touches made kindForm kindTurns kindWays p0) (fun (r_3 : Int32) (turns_4 : Int32) (lineT_5 : Int32) (lineU_6 : Int32) (kinds_7 : Int32) (q_8 : Nat → Int64) (base_9 : Nat → Int64) (least_10 : Nat → Int64) (table_11 : Nat → Int64) (rows_12 : Nat → Int64) (lists_13 : Nat → Int64) (listSize_14 : Nat → Int32) (tried_15 : Nat → Int64) (line_16 : Nat → Int64) (makers_17 : Nat → Int64) (touches_18 : Nat → Int64) (made_19 : Nat → Int64) (kindForm_20 : Nat → Int64) (kindTurns_21 : Nat → Int32) (kindWays_22 : Nat → Int32) => if 0 ≤ r_3 then (bd1 (fX7_in p1.toInt64 (0 : Int64) (kinds_7 - (1 : Int32)).toInt64) (fun (r_23 : Int32) => nm (fun (s_25 : Int32) => some (s_25, turns_4, lineT_5, lineU_6, kinds_7, q_8, base_9, least_10, table_11, rows_12, lists_13, listSize_14, tried_15, line_16, makers_17, touches_18, made_19, kindForm_20, kindTurns_21, kindWays_22)) (fun (k89 : (Int32) → Option (Int32 × (Int32) × (Int32) × (Int32) × (Int32) × (Nat → Int64) × (Nat → Int64) × (Nat → Int64) × (Nat → Int64) × (Nat → Int64) × (Nat → Int64) × (Nat → Int32) × (Nat → Int64) × (Nat → Int64) × (Nat → Int64) × (Nat → Int64) × (Nat → Int64) × (Nat → Int64) × (Nat → Int32) × (Nat → Int32))) => if r_23 = 0 then ((k89 (-100001 : Int32))) else (if (6 : Int32) ≤ p2 then (if okI p1 17 then (k89 (kindTurns_21 p1.toNatClampNeg)) else none) else (nm (((6 : Int32) * p1) + p2) (fun (v_24 : Int32) => if okI v_24 102 then (k89 (kindForm_20 v_24.toNatClampNeg).toInt32) else none)))))) else (some (r_3, turns_4, lineT_5, lineU_6, kinds_7, q_8, base_9, least_10, table_11, rows_12, lists_13, listSize_14, tried_15, line_16, makers_17, touches_18, made_19, kindForm_20, kindTurns_21, kindWays_22)))))))
def lkX7_kind : List Cond := [.constantLong RX7 238 (6), .constant RX7 170 (-100001), .constant RX7 157 (-100002), .fieldLink RX7 221 "KinFormsModel" "kinds" "I", .fieldLink RX7 60 "KinFormsModel" "kindTurns" "[I", .fieldLink RX7 57 "KinFormsModel" "kindForm" "[J"]
def vX7_kind : List Cond := .code yX7_kind cX7_kind 5 (some .int) :: (lkX7_kind ++ (wsX70 ++ (wsV RX7 166 RX7 yX7_isForm vX7_isForm ++ (va_wsS RX7 147 yX7_in vX7_in ++ (wsV RX7 235 RX7 yX7_findKin vX7_findKin ++ ([]))))))
theorem q_X7_kind : ∀ w ∈ vX7_kind, goodWord w = true := gd_cons rfl (gd_app (by decide +kernel) (gd_app q_wsX70 (gd_app (gd_V q_X7_isForm) (gd_app (gd_S q_X7_in) (gd_app (gd_V q_X7_findKin) gd_nil)))))
theorem g_X7_kind_X7_isForm : GoodIn vX7_kind (wsV RX7 166 RX7 yX7_isForm vX7_isForm) := gi_of (fun w h => List.mem_cons_of_mem _ (List.mem_append_right _ (List.mem_append_right _ (List.mem_append_left _ h)))) (gd_V q_X7_isForm)
theorem g_X7_kind_X7_in : GoodIn vX7_kind (va_wsS RX7 147 yX7_in vX7_in) := gi_of (fun w h => List.mem_cons_of_mem _ (List.mem_append_right _ (List.mem_append_right _ (List.mem_append_right _ (List.mem_append_left _ h))))) (gd_S q_X7_in)
theorem g_X7_kind_X7_findKin : GoodIn vX7_kind (wsV RX7 235 RX7 yX7_findKin vX7_findKin) := gi_of (fun w h => List.mem_cons_of_mem _ (List.mem_append_right _ (List.mem_append_right _ (List.mem_append_right _ (List.mem_append_right _ (List.mem_append_left _ h)))))) (gd_V q_X7_findKin)
abbrev rmX7_kind : Room := { frames := 7, cells := 0, slots := 0, locals := 192 }
set_option maxHeartbeats 4000000 in
set_option maxRecDepth 100000 in
theorem c_X7_kind (l : Launch) (dC : Nat → ClassId) (dI : Nat → Nat → Nat) (cI : ClassId) (cJ : ClassId) (h : Nat) (a : Nat → Nat) (fu : Nat) (sz : Nat) (forms : Int32) (prime : Int32) (turns : Int32) (lineT : Int32) (lineU : Int32) (kinds : Int32) (upper : Int64) (lower : Int64) (numbers : Nat → Int32) (q : Nat → Int64) (base : Nat → Int64) (least : Nat → Int64) (table : Nat → Int64) (rows : Nat → Int64) (lists : Nat → Int64) (listSize : Nat → Int32) (tried : Nat → Int64) (other : Nat → Int64) (line : Nat → Int64) (makers : Nat → Int64) (touches : Nat → Int64) (made : Nat → Int64) (kindForm : Nat → Int64) (kindTurns : Nat → Int32) (kindWays : Nat → Int32) (p0 : Int32) (p1 : Int32) (p2 : Int32) (ro : Int32) (o_turns : Int32) (o_lineT : Int32) (o_lineU : Int32) (o_kinds : Int32) (o_q : Nat → Int64) (o_base : Nat → Int64) (o_least : Nat → Int64) (o_table : Nat → Int64) (o_rows : Nat → Int64) (o_lists : Nat → Int64) (o_listSize : Nat → Int32) (o_tried : Nat → Int64) (o_line : Nat → Int64) (o_makers : Nat → Int64) (o_touches : Nat → Int64) (o_made : Nat → Int64) (o_kindForm : Nat → Int64) (o_kindTurns : Nat → Int32) (o_kindWays : Nat → Int32) (hF : fX7_kind fu forms prime turns lineT lineU kinds numbers q base least table rows lists listSize tried line makers touches made kindForm kindTurns kindWays p0 p1 p2 = some (ro, o_turns, o_lineT, o_lineU, o_kinds, o_q, o_base, o_least, o_table, o_rows, o_lists, o_listSize, o_tried, o_line, o_makers, o_touches, o_made, o_kindForm, o_kindTurns, o_kindWays)) : Met l yX7_kind vX7_kind rmX7_kind (va_Pc [.ref h, .int p0, .int p1, .int p2] (mPc (dC, dI) vwCl (mW cI cJ h a forms prime turns lineT lineU kinds upper lower numbers q base least table rows lists listSize tried other line makers touches made kindForm kindTurns kindWays) [(cI, .int), (cJ, .long)] sz)) (va_Qi (fun x (_ : Unit) => x = ro) (mPo (dC, dI) vwCl (mW cI cJ h a forms prime o_turns o_lineT o_lineU o_kinds upper lower numbers o_q o_base o_least o_table o_rows o_lists o_listSize o_tried other o_line o_makers o_touches o_made o_kindForm o_kindTurns o_kindWays) [(cI, .int), (cJ, .long)] (va_A (mW cI cJ h a forms prime turns lineT lineU kinds upper lower numbers q base least table rows lists listSize tried other line makers touches made kindForm kindTurns kindWays) sz)) (va_A (mW cI cJ h a forms prime turns lineT lineU kinds upper lower numbers q base least table rows lists listSize tried other line makers touches made kindForm kindTurns kindWays) sz)) 0 0 (va_A (mW cI cJ h a forms prime turns lineT lineU kinds upper lower numbers q base least table rows lists listSize tried other line makers touches made kindForm kindTurns kindWays) sz) := by
  refine Met.ofW (cc := cX7_kind) (maxL := 5) (ret := (some .int)) (by decide) rfl ?_
  intro p e s m args below meth c s₁ B hml hv
  obtain ⟨rfl, hsz, hP, hK, hD0⟩ := hv
  have hx := B.exec
  have hb := B.bytes
  have hr := B.returns
  have hts := atoms_spec (ws := vX7_kind) B.pre
  have hlk : ∀ w ∈ lkX7_kind, w.before _ s = true := fun w h => hts w (List.mem_cons_of_mem _ (List.mem_append_left _ h))
  have hown : s.vm.findClass RX7 = some m.cls := findClass_of_methodNamed B.named
  have hlocks := B.notSynchronized
  subst hsz
  have hD := hD0.self (sz := s.heap.size)
  generalize hAe : va_A (mW cI cJ h a forms prime turns lineT lineU kinds upper lower numbers q base least table rows lists listSize tried other line makers touches made kindForm kindTurns kindWays) s.heap.size = A at hD ⊢
  have hA : ∀ q : Nat, s.heap.size ≤ q → A q := fun q h => by rw [← hAe]; exact Or.inr h
  have hS : va_S A s.heap s.heap [] := va_S.rf
  have hinX7 : ∀ w ∈ wsX70, w ∈ vX7_kind := fun w h => List.mem_cons_of_mem _ (List.mem_append_right _ (List.mem_append_left _ h))
  have hf_221 := hlk (.fieldLink RX7 221 "KinFormsModel" "kinds" "I") (by decide +kernel)
  have hf_60 := hlk (.fieldLink RX7 60 "KinFormsModel" "kindTurns" "[I") (by decide +kernel)
  have hf_57 := hlk (.fieldLink RX7 57 "KinFormsModel" "kindForm" "[J") (by decide +kernel)
  have hl := lv_entry ([.ref h, .int p0, .int p1, .int p2] : List Value) (n := 5) (Nat.le_of_ble_eq_true rfl)
  rw [lg_entry_eq]
  generalize (lg_sl ([.ref h, .int p0, .int p1, .int p2] : List Value) ++ List.replicate (5 - (lg_sl ([.ref h, .int p0, .int p1, .int p2] : List Value)).length) Slot.unset).toArray = ls at hl ⊢
  have hl : lv_has ls 5 [(0, .ref h), (1, .int p0), (2, .int p1), (3, .int p2)] := hl
  unfold fX7_kind at hF
  refine W_Q (fun Q hQ => ?_)
  have hP : va_P (dC, dI) vwCl (mW cI cJ h a forms prime turns lineT lineU kinds upper lower numbers q base least table rows lists listSize tried other line makers touches made kindForm kindTurns kindWays) s.heap := hP
  refine W_HL (fun H locs eH eL => ?_)
  rw [← eH] at hP
  have hS : va_S A s.heap H locs := by rw [eH, eL]; exact hS
  refine lv_aload_n hx hb dX7_kind_0 rfl (lv_at hl 0 rfl) ?_
  refine lv_iload_n hx hb dX7_kind_1 rfl (lv_at hl 1 rfl) ?_
  obtain ⟨r_1, hc, hF⟩ := bd1_of hF
  refine rc_i (va_runV (As := [.int p0]) (rest := []) ⟨hx, hb, hml, hown, hts⟩ (c_X7_isForm l dC dI cI cJ h a forms prime turns lineT lineU kinds upper lower numbers q base least table rows lists listSize tried other line makers touches made kindForm kindTurns kindWays p0 r_1 hc) (cwV 1 hts g_X7_kind_X7_isForm rfl rfl rfl (by decide +kernel) ⟨Nat.le_of_ble_eq_true rfl, Nat.le_of_ble_eq_true rfl⟩) ⟨rPc_blind, va_recv hK hP (ci := 5) (q0 := 0) rfl rfl, rPc_at hK hP⟩ rfl rfl hl.1 rfl (lv_room (Nat.le_of_ble_eq_true rfl)) dX7_kind_2 ⟨Nat.zero_le _, Nat.zero_le _⟩) ?_
  refine lv_if_ne (tgt := 11) hx hb dX7_kind_5 (by decide) (fun c0 => ?_) (fun c0 => ?_)
  · have hF := if_f hF c0
    refine lv_iload_n hx hb dX7_kind_11 rfl (lv_at hl 3 rfl) ?_
    refine lv_i2l (v := p2.toInt64) hx hb dX7_kind_12 rfl ?_
    refine lv_lconst (v := 0) hx hb dX7_kind_13 (by decide) ?_
    refine lv_ldc2 (v := (6)) hx hb hown (hlk (.constantLong RX7 238 (6)) (by decide +kernel)) dX7_kind_14 ?_
    obtain ⟨r_2, hc, hF⟩ := bd1_of hF
    refine rc_i (va_runS (As := [.long p2.toInt64, .long (0 : Int64), .long (6 : Int64)]) (rest := []) ⟨hx, hb, hml, hown, hts⟩ (c_X7_in l p2.toInt64 (0 : Int64) (6 : Int64) r_2 hc) (va_cwS 3 hts g_X7_kind_X7_in rfl rfl rfl (by decide +kernel) ⟨Nat.le_of_ble_eq_true rfl, Nat.le_of_ble_eq_true rfl⟩) ⟨tPc_blind, tPc_at⟩ rfl rfl hl.1 rfl (lv_room (Nat.le_of_ble_eq_true rfl)) dX7_kind_17 ⟨Nat.zero_le _, Nat.zero_le _⟩) ?_
    refine lv_if_ne (tgt := 26) hx hb dX7_kind_20 (by decide) (fun c0 => ?_) (fun c0 => ?_)
    · have hF := if_f hF c0
      refine lv_aload_n hx hb dX7_kind_26 rfl (lv_at hl 0 rfl) ?_
      refine lv_iload_n hx hb dX7_kind_27 rfl (lv_at hl 1 rfl) ?_
      obtain ⟨r_3, turns_4, lineT_5, lineU_6, kinds_7, q_8, base_9, least_10, table_11, rows_12, lists_13, listSize_14, tried_15, line_16, makers_17, touches_18, made_19, kindForm_20, kindTurns_21, kindWays_22, hc, hF⟩ := bd20_of hF
      refine mc_i (va_runV (As := [.int p0]) (rest := []) ⟨hx, hb, hml, hown, hts⟩ (c_X7_findKin l dC dI cI cJ h a fu H.size forms prime turns lineT lineU kinds upper lower numbers q base least table rows lists listSize tried other line makers touches made kindForm kindTurns kindWays p0 r_3 turns_4 lineT_5 lineU_6 kinds_7 q_8 base_9 least_10 table_11 rows_12 lists_13 listSize_14 tried_15 line_16 makers_17 touches_18 made_19 kindForm_20 kindTurns_21 kindWays_22 hc) (cwV 1 hts g_X7_kind_X7_findKin rfl rfl rfl (by decide +kernel) ⟨Nat.le_of_ble_eq_true rfl, Nat.le_of_ble_eq_true rfl⟩) ⟨mPc_blind, va_recv hK hP (ci := 5) (q0 := 0) rfl rfl, mPc_at hK hP hD⟩ rfl rfl hl.1 rfl (lv_room (Nat.le_of_ble_eq_true rfl)) dX7_kind_28 ⟨Nat.zero_le _, Nat.zero_le _⟩) hS (fr_all hD hS hA) (fun H locs hP hD hS => ?_)
      refine lv_istore (lv' := [(4, .int r_3), (0, .ref h), (1, .int p0), (2, .int p1), (3, .int p2)]) hx hb dX7_kind_31 hl (by decide) rfl (fun ls hl => ?_)
      refine lv_iload hx hb dX7_kind_33 (lv_at hl 0 rfl) ?_
      refine lv_if_ge (tgt := 41) hx hb dX7_kind_35 (by decide) (fun c0 => ?_) (fun c0 => ?_)
      · have hF := if_t hF c0
        refine lv_iload_n hx hb dX7_kind_41 rfl (lv_at hl 3 rfl) ?_
        refine lv_i2l (v := p1.toInt64) hx hb dX7_kind_42 rfl ?_
        refine lv_lconst (v := 0) hx hb dX7_kind_43 (by decide) ?_
        refine lv_aload_n hx hb dX7_kind_44 rfl (lv_at hl 1 rfl) ?_
        refine va_get (D := (dC, dI)) (ci := 5) (v := .int kinds_7) (C := RX7) (T := TX7) (N := 25) hx hb hts hinX7 hown hK hP 0 rfl rfl 19 (by decide) hf_221 (fun _ h9 => h9) rfl dX7_kind_45 ?_
        refine lv_iconst (v := 1) hx hb dX7_kind_48 (by decide) ?_
        refine lv_isub hx hb dX7_kind_49 ?_
        refine lv_i2l (v := (kinds_7 - (1 : Int32)).toInt64) hx hb dX7_kind_50 rfl ?_
        obtain ⟨r_23, hc, hF⟩ := bd1_of hF
        refine rc_i (va_runS (As := [.long p1.toInt64, .long (0 : Int64), .long (kinds_7 - (1 : Int32)).toInt64]) (rest := []) ⟨hx, hb, hml, hown, hts⟩ (c_X7_in l p1.toInt64 (0 : Int64) (kinds_7 - (1 : Int32)).toInt64 r_23 hc) (va_cwS 3 hts g_X7_kind_X7_in rfl rfl rfl (by decide +kernel) ⟨Nat.le_of_ble_eq_true rfl, Nat.le_of_ble_eq_true rfl⟩) ⟨tPc_blind, tPc_at⟩ rfl rfl hl.1 rfl (lv_room (Nat.le_of_ble_eq_true rfl)) dX7_kind_51 ⟨Nat.zero_le _, Nat.zero_le _⟩) ?_
        obtain ⟨k89, e_k89, hF⟩ := nm_ex hF
        have hk89 : ∀ (s_25 : Int32) (H : Heap) (locs : List Loc) (ls : Array Slot), va_P (dC, dI) vwCl (mW cI cJ h a forms prime turns_4 lineT_5 lineU_6 kinds_7 upper lower numbers q_8 base_9 least_10 table_11 rows_12 lists_13 listSize_14 tried_15 other line_16 makers_17 touches_18 made_19 kindForm_20 kindTurns_21 kindWays_22) H → va_D A (mW cI cJ h a forms prime turns_4 lineT_5 lineU_6 kinds_7 upper lower numbers q_8 base_9 least_10 table_11 rows_12 lists_13 listSize_14 tried_15 other line_16 makers_17 touches_18 made_19 kindForm_20 kindTurns_21 kindWays_22) → va_S A s.heap H locs → lv_has ls 5 [] → k89 s_25 = some (ro, o_turns, o_lineT, o_lineU, o_kinds, o_q, o_base, o_least, o_table, o_rows, o_lists, o_listSize, o_tried, o_line, o_makers, o_touches, o_made, o_kindForm, o_kindTurns, o_kindWays) → W p l e rmX7_kind s m ([.ref h, .int p0, .int p1, .int p2] : List Value).toArray below meth c H locs 0 0 Q (F0 m 89 ls [.int s_25]) := by
          intro s_25 H locs ls hP hD hS hl hF
          have hF := ka1 e_k89 hF
          obtain ⟨q0, q1, q2, q3, q4, q5, q6, q7, q8, q9, q10, q11, q12, q13, q14, q15, q16, q17, q18, q19⟩ := sm20 hF
          have hP : va_P (dC, dI) vwCl (mW cI cJ h a forms prime o_turns o_lineT o_lineU o_kinds upper lower numbers o_q o_base o_least o_table o_rows o_lists o_listSize o_tried other o_line o_makers o_touches o_made o_kindForm o_kindTurns o_kindWays) H := by rw [← q1, ← q2, ← q3, ← q4, ← q5, ← q6, ← q7, ← q8, ← q9, ← q10, ← q11, ← q12, ← q13, ← q14, ← q15, ← q16, ← q17, ← q18, ← q19]; exact hP
          have hD : va_D A (mW cI cJ h a forms prime o_turns o_lineT o_lineU o_kinds upper lower numbers o_q o_base o_least o_table o_rows o_lists o_listSize o_tried other o_line o_makers o_touches o_made o_kindForm o_kindTurns o_kindWays) := by rw [← q1, ← q2, ← q3, ← q4, ← q5, ← q6, ← q7, ← q8, ← q9, ← q10, ← q11, ← q12, ← q13, ← q14, ← q15, ← q16, ← q17, ← q18, ← q19]; exact hD
          refine W_Qe hQ ?_
          exact W.iret hx hb hr (fun t ht hW => ⟨⟨s_25, (), rfl, q0, by rw [ht]; exact hP, va_K.moved hW.alike hK, hD⟩, hS.F ht⟩) hS.2.2 dX7_kind_89
        clear e_k89
        refine lv_if_ne (tgt := 62) hx hb dX7_kind_54 (by decide) (fun c0 => ?_) (fun c0 => ?_)
        · have hF := if_f hF c0
          refine lv_iload_n hx hb dX7_kind_62 rfl (lv_at hl 4 rfl) ?_
          refine lv_bipush (v := (6)) hx hb dX7_kind_63 (by decide) ?_
          refine lv_icmp_ge (tgt := 83) hx hb dX7_kind_65 (by decide) (fun c0 => ?_) (fun c0 => ?_)
          · have hF := if_t hF c0
            refine lv_aload_n hx hb dX7_kind_83 rfl (lv_at hl 1 rfl) ?_
            refine va_get (D := (dC, dI)) (ci := 5) (v := .ref (a 16)) (C := RX7) (T := TX7) (N := 25) hx hb hts hinX7 hown hK hP 0 rfl rfl 21 (by decide) hf_60 (fun _ h9 => h9) rfl dX7_kind_84 ?_
            refine lv_iload_n hx hb dX7_kind_87 rfl (lv_at hl 3 rfl) ?_
            obtain ⟨hi, hF⟩ := ck_of hF
            refine va_iald hx hb hK hP 16 0 rfl rfl hi dX7_kind_88 ?_
            exact hk89 (kindTurns_21 p1.toNatClampNeg) H locs ls hP hD hS (lv_sub hl [] rfl) hF
          · have hF := if_f hF c0
            refine lv_aload_n hx hb dX7_kind_68 rfl (lv_at hl 1 rfl) ?_
            refine va_get (D := (dC, dI)) (ci := 5) (v := .ref (a 15)) (C := RX7) (T := TX7) (N := 25) hx hb hts hinX7 hown hK hP 0 rfl rfl 20 (by decide) hf_57 (fun _ h9 => h9) rfl dX7_kind_69 ?_
            refine lv_bipush (v := (6)) hx hb dX7_kind_72 (by decide) ?_
            refine lv_iload_n hx hb dX7_kind_74 rfl (lv_at hl 3 rfl) ?_
            refine lv_imul hx hb dX7_kind_75 ?_
            refine lv_iload_n hx hb dX7_kind_76 rfl (lv_at hl 4 rfl) ?_
            refine lv_iadd hx hb dX7_kind_77 ?_
            refine lv_topi (fun v_24 e_v_24 => ?_)
            have hF := nm_at hF e_v_24
            obtain ⟨hi, hF⟩ := ck_of hF
            refine va_lald hx hb hK hP 15 1 rfl rfl hi dX7_kind_78 ?_
            refine lv_l2i (v := (kindForm_20 v_24.toNatClampNeg).toInt32) hx hb dX7_kind_79 rfl ?_
            refine lv_goto (tgt := 89) hx hb dX7_kind_80 (by decide) ?_
            exact hk89 (kindForm_20 v_24.toNatClampNeg).toInt32 H locs ls hP hD hS (lv_sub hl [] rfl) hF
        · have hF := if_t hF c0
          refine lv_ldc (v := (-100001)) hx hb hown (hlk (.constant RX7 170 (-100001)) (by decide +kernel)) dX7_kind_57 ?_
          refine lv_goto (tgt := 89) hx hb dX7_kind_59 (by decide) ?_
          exact hk89 (-100001 : Int32) H locs ls hP hD hS (lv_sub hl [] rfl) hF
      · have hF := if_f hF c0
        refine lv_iload hx hb dX7_kind_38 (lv_at hl 0 rfl) ?_
        obtain ⟨q0, q1, q2, q3, q4, q5, q6, q7, q8, q9, q10, q11, q12, q13, q14, q15, q16, q17, q18, q19⟩ := sm20 hF
        have hP : va_P (dC, dI) vwCl (mW cI cJ h a forms prime o_turns o_lineT o_lineU o_kinds upper lower numbers o_q o_base o_least o_table o_rows o_lists o_listSize o_tried other o_line o_makers o_touches o_made o_kindForm o_kindTurns o_kindWays) H := by rw [← q1, ← q2, ← q3, ← q4, ← q5, ← q6, ← q7, ← q8, ← q9, ← q10, ← q11, ← q12, ← q13, ← q14, ← q15, ← q16, ← q17, ← q18, ← q19]; exact hP
        have hD : va_D A (mW cI cJ h a forms prime o_turns o_lineT o_lineU o_kinds upper lower numbers o_q o_base o_least o_table o_rows o_lists o_listSize o_tried other o_line o_makers o_touches o_made o_kindForm o_kindTurns o_kindWays) := by rw [← q1, ← q2, ← q3, ← q4, ← q5, ← q6, ← q7, ← q8, ← q9, ← q10, ← q11, ← q12, ← q13, ← q14, ← q15, ← q16, ← q17, ← q18, ← q19]; exact hD
        refine W_Qe hQ ?_
        exact W.iret hx hb hr (fun t ht hW => ⟨⟨r_3, (), rfl, q0, by rw [ht]; exact hP, va_K.moved hW.alike hK, hD⟩, hS.F ht⟩) hS.2.2 dX7_kind_40
    · have hF := if_t hF c0
      refine lv_ldc (v := (-100002)) hx hb hown (hlk (.constant RX7 157 (-100002)) (by decide +kernel)) dX7_kind_23 ?_
      obtain ⟨q0, q1, q2, q3, q4, q5, q6, q7, q8, q9, q10, q11, q12, q13, q14, q15, q16, q17, q18, q19⟩ := sm20 hF
      have hP : va_P (dC, dI) vwCl (mW cI cJ h a forms prime o_turns o_lineT o_lineU o_kinds upper lower numbers o_q o_base o_least o_table o_rows o_lists o_listSize o_tried other o_line o_makers o_touches o_made o_kindForm o_kindTurns o_kindWays) H := by rw [← q1, ← q2, ← q3, ← q4, ← q5, ← q6, ← q7, ← q8, ← q9, ← q10, ← q11, ← q12, ← q13, ← q14, ← q15, ← q16, ← q17, ← q18, ← q19]; exact hP
      have hD : va_D A (mW cI cJ h a forms prime o_turns o_lineT o_lineU o_kinds upper lower numbers o_q o_base o_least o_table o_rows o_lists o_listSize o_tried other o_line o_makers o_touches o_made o_kindForm o_kindTurns o_kindWays) := by rw [← q1, ← q2, ← q3, ← q4, ← q5, ← q6, ← q7, ← q8, ← q9, ← q10, ← q11, ← q12, ← q13, ← q14, ← q15, ← q16, ← q17, ← q18, ← q19]; exact hD
      refine W_Qe hQ ?_
      exact W.iret hx hb hr (fun t ht hW => ⟨⟨(-100002 : Int32), (), rfl, q0, by rw [ht]; exact hP, va_K.moved hW.alike hK, hD⟩, hS.F ht⟩) hS.2.2 dX7_kind_25
  · have hF := if_t hF c0
    refine lv_ldc (v := (-100001)) hx hb hown (hlk (.constant RX7 170 (-100001)) (by decide +kernel)) dX7_kind_8 ?_
    obtain ⟨q0, q1, q2, q3, q4, q5, q6, q7, q8, q9, q10, q11, q12, q13, q14, q15, q16, q17, q18, q19⟩ := sm20 hF
    have hP : va_P (dC, dI) vwCl (mW cI cJ h a forms prime o_turns o_lineT o_lineU o_kinds upper lower numbers o_q o_base o_least o_table o_rows o_lists o_listSize o_tried other o_line o_makers o_touches o_made o_kindForm o_kindTurns o_kindWays) H := by rw [← q1, ← q2, ← q3, ← q4, ← q5, ← q6, ← q7, ← q8, ← q9, ← q10, ← q11, ← q12, ← q13, ← q14, ← q15, ← q16, ← q17, ← q18, ← q19]; exact hP
    have hD : va_D A (mW cI cJ h a forms prime o_turns o_lineT o_lineU o_kinds upper lower numbers o_q o_base o_least o_table o_rows o_lists o_listSize o_tried other o_line o_makers o_touches o_made o_kindForm o_kindTurns o_kindWays) := by rw [← q1, ← q2, ← q3, ← q4, ← q5, ← q6, ← q7, ← q8, ← q9, ← q10, ← q11, ← q12, ← q13, ← q14, ← q15, ← q16, ← q17, ← q18, ← q19]; exact hD
    refine W_Qe hQ ?_
    exact W.iret hx hb hr (fun t ht hW => ⟨⟨(-100001 : Int32), (), rfl, q0, by rw [ht]; exact hP, va_K.moved hW.alike hK, hD⟩, hS.F ht⟩) hS.2.2 dX7_kind_10
def fX7_among (fu : Nat) (forms : Int32) (prime : Int32) (turns : Int32) (lineT : Int32) (lineU : Int32) (kinds : Int32) (numbers : Nat → Int32) (q : Nat → Int64) (base : Nat → Int64) (least : Nat → Int64) (table : Nat → Int64) (rows : Nat → Int64) (lists : Nat → Int64) (listSize : Nat → Int32) (tried : Nat → Int64) (line : Nat → Int64) (makers : Nat → Int64) (touches : Nat → Int64) (made : Nat → Int64) (kindForm : Nat → Int64) (kindTurns : Nat → Int32) (kindWays : Nat → Int32) (p0 : Int32) (p1 : Int32) : Option (Int32 × (Int32) × (Int32) × (Int32) × (Int32) × (Nat → Int64) × (Nat → Int64) × (Nat → Int64) × (Nat → Int64) × (Nat → Int64) × (Nat → Int64) × (Nat → Int32) × (Nat → Int64) × (Nat → Int64) × (Nat → Int64) × (Nat → Int64) × (Nat → Int64) × (Nat → Int64) × (Nat → Int32) × (Nat → Int32)) :=
  bd1 (fX7_isForm forms p0) (fun (r_1 : Int32) => nm (some ((-100001 : Int32), turns, lineT, lineU, kinds, q, base, least, table, rows, lists, listSize, tried, line, makers, touches, made, kindForm, kindTurns, kindWays)) (fun (k16 : Option (Int32 × (Int32) × (Int32) × (Int32) × (Int32) × (Nat → Int64) × (Nat → Int64) × (Nat → Int64) × (Nat → Int64) × (Nat → Int64) × (Nat → Int64) × (Nat → Int32) × (Nat → Int64) × (Nat → Int64) × (Nat → Int64) × (Nat → Int64) × (Nat → Int64) × (Nat → Int64) × (Nat → Int32) × (Nat → Int32))) => if r_1 = 0 then ((k16)) else (bd1 (fX7_isForm forms p1) (fun (r_2 : Int32) => if r_2 = 0 then ((k16)) else (bd20 (fX7_findKin fu prime turns lineT lineU kinds numbers q base least table rows lists listSize tried line makers touches made kindForm kindTurns kindWays p0) (fun (r_3 : Int32) (turns_4 : Int32) (lineT_5 : Int32) (lineU_6 : Int32) (kinds_7 : Int32) (q_8 : Nat → Int64) (base_9 : Nat → Int64) (least_10 : Nat → Int64) (table_11 : Nat → Int64) (rows_12 : Nat → Int64) (lists_13 : Nat → Int64) (listSize_14 : Nat → Int32) (tried_15 : Nat → Int64) (line_16 : Nat → Int64) (makers_17 : Nat → Int64) (touches_18 : Nat → Int64) (made_19 : Nat → Int64) (kindForm_20 : Nat → Int64) (kindTurns_21 : Nat → Int32) (kindWays_22 : Nat → Int32) => if 0 ≤ r_3 then (bd9 (fX7_findLeastOf fu numbers q_8 base_9 least_10 table_11 rows_12 lists_13 listSize_14 tried_15 p1) (fun (turns_23 : Int32) (q_24 : Nat → Int64) (base_25 : Nat → Int64) (least_26 : Nat → Int64) (table_27 : Nat → Int64) (rows_28 : Nat → Int64) (lists_29 : Nat → Int64) (listSize_30 : Nat → Int32) (tried_31 : Nat → Int64) => bd1 (fX7_kindOfLeast fu kinds_7 least_26 kindForm_20) (fun (r_32 : Int32) => some (r_32, turns_23, lineT_5, lineU_6, kinds_7, q_24, base_25, least_26, table_27, rows_28, lists_29, listSize_30, tried_31, line_16, makers_17, touches_18, made_19, kindForm_20, kindTurns_21, kindWays_22)))) else (some (r_3, turns_4, lineT_5, lineU_6, kinds_7, q_8, base_9, least_10, table_11, rows_12, lists_13, listSize_14, tried_15, line_16, makers_17, touches_18, made_19, kindForm_20, kindTurns_21, kindWays_22))))))))
def lkX7_among : List Cond := [.constant RX7 170 (-100001)]
def vX7_among : List Cond := .code yX7_among cX7_among 4 (some .int) :: (lkX7_among ++ (wsV RX7 166 RX7 yX7_isForm vX7_isForm ++ (wsV RX7 235 RX7 yX7_findKin vX7_findKin ++ (wsV RX7 184 RX7 yX7_findLeastOf vX7_findLeastOf ++ (wsV RX7 230 RX7 yX7_kindOfLeast vX7_kindOfLeast ++ ([]))))))
theorem q_X7_among : ∀ w ∈ vX7_among, goodWord w = true := gd_cons rfl (gd_app (by decide +kernel) (gd_app (gd_V q_X7_isForm) (gd_app (gd_V q_X7_findKin) (gd_app (gd_V q_X7_findLeastOf) (gd_app (gd_V q_X7_kindOfLeast) gd_nil)))))
theorem g_X7_among_X7_isForm : GoodIn vX7_among (wsV RX7 166 RX7 yX7_isForm vX7_isForm) := gi_of (fun w h => List.mem_cons_of_mem _ (List.mem_append_right _ (List.mem_append_left _ h))) (gd_V q_X7_isForm)
theorem g_X7_among_X7_findKin : GoodIn vX7_among (wsV RX7 235 RX7 yX7_findKin vX7_findKin) := gi_of (fun w h => List.mem_cons_of_mem _ (List.mem_append_right _ (List.mem_append_right _ (List.mem_append_left _ h)))) (gd_V q_X7_findKin)
theorem g_X7_among_X7_findLeastOf : GoodIn vX7_among (wsV RX7 184 RX7 yX7_findLeastOf vX7_findLeastOf) := gi_of (fun w h => List.mem_cons_of_mem _ (List.mem_append_right _ (List.mem_append_right _ (List.mem_append_right _ (List.mem_append_left _ h))))) (gd_V q_X7_findLeastOf)
theorem g_X7_among_X7_kindOfLeast : GoodIn vX7_among (wsV RX7 230 RX7 yX7_kindOfLeast vX7_kindOfLeast) := gi_of (fun w h => List.mem_cons_of_mem _ (List.mem_append_right _ (List.mem_append_right _ (List.mem_append_right _ (List.mem_append_right _ (List.mem_append_left _ h)))))) (gd_V q_X7_kindOfLeast)
abbrev rmX7_among : Room := { frames := 7, cells := 0, slots := 0, locals := 192 }
set_option maxHeartbeats 4000000 in
set_option maxRecDepth 100000 in
theorem c_X7_among (l : Launch) (dC : Nat → ClassId) (dI : Nat → Nat → Nat) (cI : ClassId) (cJ : ClassId) (h : Nat) (a : Nat → Nat) (fu : Nat) (sz : Nat) (forms : Int32) (prime : Int32) (turns : Int32) (lineT : Int32) (lineU : Int32) (kinds : Int32) (upper : Int64) (lower : Int64) (numbers : Nat → Int32) (q : Nat → Int64) (base : Nat → Int64) (least : Nat → Int64) (table : Nat → Int64) (rows : Nat → Int64) (lists : Nat → Int64) (listSize : Nat → Int32) (tried : Nat → Int64) (other : Nat → Int64) (line : Nat → Int64) (makers : Nat → Int64) (touches : Nat → Int64) (made : Nat → Int64) (kindForm : Nat → Int64) (kindTurns : Nat → Int32) (kindWays : Nat → Int32) (p0 : Int32) (p1 : Int32) (ro : Int32) (o_turns : Int32) (o_lineT : Int32) (o_lineU : Int32) (o_kinds : Int32) (o_q : Nat → Int64) (o_base : Nat → Int64) (o_least : Nat → Int64) (o_table : Nat → Int64) (o_rows : Nat → Int64) (o_lists : Nat → Int64) (o_listSize : Nat → Int32) (o_tried : Nat → Int64) (o_line : Nat → Int64) (o_makers : Nat → Int64) (o_touches : Nat → Int64) (o_made : Nat → Int64) (o_kindForm : Nat → Int64) (o_kindTurns : Nat → Int32) (o_kindWays : Nat → Int32) (hF : fX7_among fu forms prime turns lineT lineU kinds numbers q base least table rows lists listSize tried line makers touches made kindForm kindTurns kindWays p0 p1 = some (ro, o_turns, o_lineT, o_lineU, o_kinds, o_q, o_base, o_least, o_table, o_rows, o_lists, o_listSize, o_tried, o_line, o_makers, o_touches, o_made, o_kindForm, o_kindTurns, o_kindWays)) : Met l yX7_among vX7_among rmX7_among (va_Pc [.ref h, .int p0, .int p1] (mPc (dC, dI) vwCl (mW cI cJ h a forms prime turns lineT lineU kinds upper lower numbers q base least table rows lists listSize tried other line makers touches made kindForm kindTurns kindWays) [(cI, .int), (cJ, .long)] sz)) (va_Qi (fun x (_ : Unit) => x = ro) (mPo (dC, dI) vwCl (mW cI cJ h a forms prime o_turns o_lineT o_lineU o_kinds upper lower numbers o_q o_base o_least o_table o_rows o_lists o_listSize o_tried other o_line o_makers o_touches o_made o_kindForm o_kindTurns o_kindWays) [(cI, .int), (cJ, .long)] (va_A (mW cI cJ h a forms prime turns lineT lineU kinds upper lower numbers q base least table rows lists listSize tried other line makers touches made kindForm kindTurns kindWays) sz)) (va_A (mW cI cJ h a forms prime turns lineT lineU kinds upper lower numbers q base least table rows lists listSize tried other line makers touches made kindForm kindTurns kindWays) sz)) 0 0 (va_A (mW cI cJ h a forms prime turns lineT lineU kinds upper lower numbers q base least table rows lists listSize tried other line makers touches made kindForm kindTurns kindWays) sz) := by
  refine Met.ofW (cc := cX7_among) (maxL := 4) (ret := (some .int)) (by decide) rfl ?_
  intro p e s m args below meth c s₁ B hml hv
  obtain ⟨rfl, hsz, hP, hK, hD0⟩ := hv
  have hx := B.exec
  have hb := B.bytes
  have hr := B.returns
  have hts := atoms_spec (ws := vX7_among) B.pre
  have hlk : ∀ w ∈ lkX7_among, w.before _ s = true := fun w h => hts w (List.mem_cons_of_mem _ (List.mem_append_left _ h))
  have hown : s.vm.findClass RX7 = some m.cls := findClass_of_methodNamed B.named
  have hlocks := B.notSynchronized
  subst hsz
  have hD := hD0.self (sz := s.heap.size)
  generalize hAe : va_A (mW cI cJ h a forms prime turns lineT lineU kinds upper lower numbers q base least table rows lists listSize tried other line makers touches made kindForm kindTurns kindWays) s.heap.size = A at hD ⊢
  have hA : ∀ q : Nat, s.heap.size ≤ q → A q := fun q h => by rw [← hAe]; exact Or.inr h
  have hS : va_S A s.heap s.heap [] := va_S.rf
  have hl := lv_entry ([.ref h, .int p0, .int p1] : List Value) (n := 4) (Nat.le_of_ble_eq_true rfl)
  rw [lg_entry_eq]
  generalize (lg_sl ([.ref h, .int p0, .int p1] : List Value) ++ List.replicate (4 - (lg_sl ([.ref h, .int p0, .int p1] : List Value)).length) Slot.unset).toArray = ls at hl ⊢
  have hl : lv_has ls 4 [(0, .ref h), (1, .int p0), (2, .int p1)] := hl
  unfold fX7_among at hF
  refine W_Q (fun Q hQ => ?_)
  have hP : va_P (dC, dI) vwCl (mW cI cJ h a forms prime turns lineT lineU kinds upper lower numbers q base least table rows lists listSize tried other line makers touches made kindForm kindTurns kindWays) s.heap := hP
  refine W_HL (fun H locs eH eL => ?_)
  rw [← eH] at hP
  have hS : va_S A s.heap H locs := by rw [eH, eL]; exact hS
  refine lv_aload_n hx hb dX7_among_0 rfl (lv_at hl 0 rfl) ?_
  refine lv_iload_n hx hb dX7_among_1 rfl (lv_at hl 1 rfl) ?_
  obtain ⟨r_1, hc, hF⟩ := bd1_of hF
  refine rc_i (va_runV (As := [.int p0]) (rest := []) ⟨hx, hb, hml, hown, hts⟩ (c_X7_isForm l dC dI cI cJ h a forms prime turns lineT lineU kinds upper lower numbers q base least table rows lists listSize tried other line makers touches made kindForm kindTurns kindWays p0 r_1 hc) (cwV 1 hts g_X7_among_X7_isForm rfl rfl rfl (by decide +kernel) ⟨Nat.le_of_ble_eq_true rfl, Nat.le_of_ble_eq_true rfl⟩) ⟨rPc_blind, va_recv hK hP (ci := 5) (q0 := 0) rfl rfl, rPc_at hK hP⟩ rfl rfl hl.1 rfl (lv_room (Nat.le_of_ble_eq_true rfl)) dX7_among_2 ⟨Nat.zero_le _, Nat.zero_le _⟩) ?_
  obtain ⟨k16, e_k16, hF⟩ := nm_ex hF
  have hk16 : ∀  (H : Heap) (locs : List Loc) (ls : Array Slot), va_P (dC, dI) vwCl (mW cI cJ h a forms prime turns lineT lineU kinds upper lower numbers q base least table rows lists listSize tried other line makers touches made kindForm kindTurns kindWays) H → va_D A (mW cI cJ h a forms prime turns lineT lineU kinds upper lower numbers q base least table rows lists listSize tried other line makers touches made kindForm kindTurns kindWays) → va_S A s.heap H locs → lv_has ls 4 [] → k16 = some (ro, o_turns, o_lineT, o_lineU, o_kinds, o_q, o_base, o_least, o_table, o_rows, o_lists, o_listSize, o_tried, o_line, o_makers, o_touches, o_made, o_kindForm, o_kindTurns, o_kindWays) → W p l e rmX7_among s m ([.ref h, .int p0, .int p1] : List Value).toArray below meth c H locs 0 0 Q (F0 m 16 ls []) := by
    intro H locs ls hP hD hS hl hF
    have hF := ka0 e_k16 hF
    refine lv_ldc (v := (-100001)) hx hb hown (hlk (.constant RX7 170 (-100001)) (by decide +kernel)) dX7_among_16 ?_
    obtain ⟨q0, q1, q2, q3, q4, q5, q6, q7, q8, q9, q10, q11, q12, q13, q14, q15, q16, q17, q18, q19⟩ := sm20 hF
    have hP : va_P (dC, dI) vwCl (mW cI cJ h a forms prime o_turns o_lineT o_lineU o_kinds upper lower numbers o_q o_base o_least o_table o_rows o_lists o_listSize o_tried other o_line o_makers o_touches o_made o_kindForm o_kindTurns o_kindWays) H := by rw [← q1, ← q2, ← q3, ← q4, ← q5, ← q6, ← q7, ← q8, ← q9, ← q10, ← q11, ← q12, ← q13, ← q14, ← q15, ← q16, ← q17, ← q18, ← q19]; exact hP
    have hD : va_D A (mW cI cJ h a forms prime o_turns o_lineT o_lineU o_kinds upper lower numbers o_q o_base o_least o_table o_rows o_lists o_listSize o_tried other o_line o_makers o_touches o_made o_kindForm o_kindTurns o_kindWays) := by rw [← q1, ← q2, ← q3, ← q4, ← q5, ← q6, ← q7, ← q8, ← q9, ← q10, ← q11, ← q12, ← q13, ← q14, ← q15, ← q16, ← q17, ← q18, ← q19]; exact hD
    refine W_Qe hQ ?_
    exact W.iret hx hb hr (fun t ht hW => ⟨⟨(-100001 : Int32), (), rfl, q0, by rw [ht]; exact hP, va_K.moved hW.alike hK, hD⟩, hS.F ht⟩) hS.2.2 dX7_among_18
  clear e_k16
  refine lv_if_eq (tgt := 16) hx hb dX7_among_5 (by decide) (fun c0 => ?_) (fun c0 => ?_)
  · have hF := if_t hF c0
    exact hk16 H locs ls hP hD hS (lv_sub hl [] rfl) hF
  · have hF := if_f hF c0
    refine lv_aload_n hx hb dX7_among_8 rfl (lv_at hl 0 rfl) ?_
    refine lv_iload_n hx hb dX7_among_9 rfl (lv_at hl 2 rfl) ?_
    obtain ⟨r_2, hc, hF⟩ := bd1_of hF
    refine rc_i (va_runV (As := [.int p1]) (rest := []) ⟨hx, hb, hml, hown, hts⟩ (c_X7_isForm l dC dI cI cJ h a forms prime turns lineT lineU kinds upper lower numbers q base least table rows lists listSize tried other line makers touches made kindForm kindTurns kindWays p1 r_2 hc) (cwV 1 hts g_X7_among_X7_isForm rfl rfl rfl (by decide +kernel) ⟨Nat.le_of_ble_eq_true rfl, Nat.le_of_ble_eq_true rfl⟩) ⟨rPc_blind, va_recv hK hP (ci := 5) (q0 := 0) rfl rfl, rPc_at hK hP⟩ rfl rfl hl.1 rfl (lv_room (Nat.le_of_ble_eq_true rfl)) dX7_among_10 ⟨Nat.zero_le _, Nat.zero_le _⟩) ?_
    refine lv_if_ne (tgt := 19) hx hb dX7_among_13 (by decide) (fun c0 => ?_) (fun c0 => ?_)
    · have hF := if_f hF c0
      refine lv_aload_n hx hb dX7_among_19 rfl (lv_at hl 0 rfl) ?_
      refine lv_iload_n hx hb dX7_among_20 rfl (lv_at hl 1 rfl) ?_
      obtain ⟨r_3, turns_4, lineT_5, lineU_6, kinds_7, q_8, base_9, least_10, table_11, rows_12, lists_13, listSize_14, tried_15, line_16, makers_17, touches_18, made_19, kindForm_20, kindTurns_21, kindWays_22, hc, hF⟩ := bd20_of hF
      refine mc_i (va_runV (As := [.int p0]) (rest := []) ⟨hx, hb, hml, hown, hts⟩ (c_X7_findKin l dC dI cI cJ h a fu H.size forms prime turns lineT lineU kinds upper lower numbers q base least table rows lists listSize tried other line makers touches made kindForm kindTurns kindWays p0 r_3 turns_4 lineT_5 lineU_6 kinds_7 q_8 base_9 least_10 table_11 rows_12 lists_13 listSize_14 tried_15 line_16 makers_17 touches_18 made_19 kindForm_20 kindTurns_21 kindWays_22 hc) (cwV 1 hts g_X7_among_X7_findKin rfl rfl rfl (by decide +kernel) ⟨Nat.le_of_ble_eq_true rfl, Nat.le_of_ble_eq_true rfl⟩) ⟨mPc_blind, va_recv hK hP (ci := 5) (q0 := 0) rfl rfl, mPc_at hK hP hD⟩ rfl rfl hl.1 rfl (lv_room (Nat.le_of_ble_eq_true rfl)) dX7_among_21 ⟨Nat.zero_le _, Nat.zero_le _⟩) hS (fr_all hD hS hA) (fun H locs hP hD hS => ?_)
      refine lv_istore_n (lv' := [(3, .int r_3), (0, .ref h), (1, .int p0), (2, .int p1)]) hx hb dX7_among_24 rfl hl (by decide) rfl (fun ls hl => ?_)
      refine lv_iload_n hx hb dX7_among_25 rfl (lv_at hl 0 rfl) ?_
      refine lv_if_ge (tgt := 31) hx hb dX7_among_26 (by decide) (fun c0 => ?_) (fun c0 => ?_)
      · have hF := if_t hF c0
        refine lv_aload_n hx hb dX7_among_31 rfl (lv_at hl 1 rfl) ?_
        refine lv_iload_n hx hb dX7_among_32 rfl (lv_at hl 3 rfl) ?_
        obtain ⟨turns_23, q_24, base_25, least_26, table_27, rows_28, lists_29, listSize_30, tried_31, hc, hF⟩ := bd9_of hF
        refine mc_v (va_runV (As := [.int p1]) (rest := []) ⟨hx, hb, hml, hown, hts⟩ (c_X7_findLeastOf l dC dI cI cJ h a fu H.size forms prime turns_4 lineT_5 lineU_6 kinds_7 upper lower numbers q_8 base_9 least_10 table_11 rows_12 lists_13 listSize_14 tried_15 other line_16 makers_17 touches_18 made_19 kindForm_20 kindTurns_21 kindWays_22 p1 turns_23 q_24 base_25 least_26 table_27 rows_28 lists_29 listSize_30 tried_31 hc) (cwV 1 hts g_X7_among_X7_findLeastOf rfl rfl rfl (by decide +kernel) ⟨Nat.le_of_ble_eq_true rfl, Nat.le_of_ble_eq_true rfl⟩) ⟨mPc_blind, va_recv hK hP (ci := 5) (q0 := 0) rfl rfl, mPc_at hK hP hD⟩ rfl rfl hl.1 rfl (lv_room (Nat.le_of_ble_eq_true rfl)) dX7_among_33 ⟨Nat.zero_le _, Nat.zero_le _⟩) hS (fr_all hD hS hA) (fun H locs hP hD hS => ?_)
        refine lv_aload_n hx hb dX7_among_36 rfl (lv_at hl 1 rfl) ?_
        obtain ⟨r_32, hc, hF⟩ := bd1_of hF
        refine rc_i (va_runV (As := []) (rest := []) ⟨hx, hb, hml, hown, hts⟩ (c_X7_kindOfLeast l dC dI cI cJ h a fu forms prime turns_23 lineT_5 lineU_6 kinds_7 upper lower numbers q_24 base_25 least_26 table_27 rows_28 lists_29 listSize_30 tried_31 other line_16 makers_17 touches_18 made_19 kindForm_20 kindTurns_21 kindWays_22  r_32 hc) (cwV 0 hts g_X7_among_X7_kindOfLeast rfl rfl rfl (by decide +kernel) ⟨Nat.le_of_ble_eq_true rfl, Nat.le_of_ble_eq_true rfl⟩) ⟨rPc_blind, va_recv hK hP (ci := 5) (q0 := 0) rfl rfl, rPc_at hK hP⟩ rfl rfl hl.1 rfl (lv_room (Nat.le_of_ble_eq_true rfl)) dX7_among_37 ⟨Nat.zero_le _, Nat.zero_le _⟩) ?_
        obtain ⟨q0, q1, q2, q3, q4, q5, q6, q7, q8, q9, q10, q11, q12, q13, q14, q15, q16, q17, q18, q19⟩ := sm20 hF
        have hP : va_P (dC, dI) vwCl (mW cI cJ h a forms prime o_turns o_lineT o_lineU o_kinds upper lower numbers o_q o_base o_least o_table o_rows o_lists o_listSize o_tried other o_line o_makers o_touches o_made o_kindForm o_kindTurns o_kindWays) H := by rw [← q1, ← q2, ← q3, ← q4, ← q5, ← q6, ← q7, ← q8, ← q9, ← q10, ← q11, ← q12, ← q13, ← q14, ← q15, ← q16, ← q17, ← q18, ← q19]; exact hP
        have hD : va_D A (mW cI cJ h a forms prime o_turns o_lineT o_lineU o_kinds upper lower numbers o_q o_base o_least o_table o_rows o_lists o_listSize o_tried other o_line o_makers o_touches o_made o_kindForm o_kindTurns o_kindWays) := by rw [← q1, ← q2, ← q3, ← q4, ← q5, ← q6, ← q7, ← q8, ← q9, ← q10, ← q11, ← q12, ← q13, ← q14, ← q15, ← q16, ← q17, ← q18, ← q19]; exact hD
        refine W_Qe hQ ?_
        exact W.iret hx hb hr (fun t ht hW => ⟨⟨r_32, (), rfl, q0, by rw [ht]; exact hP, va_K.moved hW.alike hK, hD⟩, hS.F ht⟩) hS.2.2 dX7_among_40
      · have hF := if_f hF c0
        refine lv_iload_n hx hb dX7_among_29 rfl (lv_at hl 0 rfl) ?_
        obtain ⟨q0, q1, q2, q3, q4, q5, q6, q7, q8, q9, q10, q11, q12, q13, q14, q15, q16, q17, q18, q19⟩ := sm20 hF
        have hP : va_P (dC, dI) vwCl (mW cI cJ h a forms prime o_turns o_lineT o_lineU o_kinds upper lower numbers o_q o_base o_least o_table o_rows o_lists o_listSize o_tried other o_line o_makers o_touches o_made o_kindForm o_kindTurns o_kindWays) H := by rw [← q1, ← q2, ← q3, ← q4, ← q5, ← q6, ← q7, ← q8, ← q9, ← q10, ← q11, ← q12, ← q13, ← q14, ← q15, ← q16, ← q17, ← q18, ← q19]; exact hP
        have hD : va_D A (mW cI cJ h a forms prime o_turns o_lineT o_lineU o_kinds upper lower numbers o_q o_base o_least o_table o_rows o_lists o_listSize o_tried other o_line o_makers o_touches o_made o_kindForm o_kindTurns o_kindWays) := by rw [← q1, ← q2, ← q3, ← q4, ← q5, ← q6, ← q7, ← q8, ← q9, ← q10, ← q11, ← q12, ← q13, ← q14, ← q15, ← q16, ← q17, ← q18, ← q19]; exact hD
        refine W_Qe hQ ?_
        exact W.iret hx hb hr (fun t ht hW => ⟨⟨r_3, (), rfl, q0, by rw [ht]; exact hP, va_K.moved hW.alike hK, hD⟩, hS.F ht⟩) hS.2.2 dX7_among_30
    · have hF := if_t hF c0
      exact hk16 H locs ls hP hD hS (lv_sub hl [] rfl) hF
def fX7_ways (fu : Nat) (forms : Int32) (prime : Int32) (turns : Int32) (lineT : Int32) (lineU : Int32) (kinds : Int32) (numbers : Nat → Int32) (q : Nat → Int64) (base : Nat → Int64) (least : Nat → Int64) (table : Nat → Int64) (rows : Nat → Int64) (lists : Nat → Int64) (listSize : Nat → Int32) (tried : Nat → Int64) (line : Nat → Int64) (makers : Nat → Int64) (touches : Nat → Int64) (made : Nat → Int64) (kindForm : Nat → Int64) (kindTurns : Nat → Int32) (kindWays : Nat → Int32) (p0 : Int32) (p1 : Int32) (p2 : Int32) : Option (Int32 × (Int32) × (Int32) × (Int32) × (Int32) × (Nat → Int64) × (Nat → Int64) × (Nat → Int64) × (Nat → Int64) × (Nat → Int64) × (Nat → Int64) × (Nat → Int32) × (Nat → Int64) × (Nat → Int64) × (Nat → Int64) × (Nat → Int64) × (Nat → Int64) × (Nat → Int64) × (Nat → Int32) × (Nat → Int32)) :=
  bd1 (fX7_isForm forms p0) (fun (r_1 : Int32) => if r_1 = 0 then (some ((-100001 : Int32), turns, lineT, lineU, kinds, q, base, least, table, rows, lists, listSize, tried, line, makers, touches, made, kindForm, kindTurns, kindWays)) else (bd20 (fX7_findKin fu prime turns lineT lineU kinds numbers q base least table rows lists listSize tried line makers touches made kindForm kindTurns kindWays p0) (fun (r_2 : Int32) (turns_3 : Int32) (lineT_4 : Int32) (lineU_5 : Int32) (kinds_6 : Int32) (q_7 : Nat → Int64) (base_8 : Nat → Int64) (least_9 : Nat → Int64) (table_10 : Nat → Int64) (rows_11 : Nat → Int64) (lists_12 : Nat → Int64) (listSize_13 : Nat → Int32) (tried_14 : Nat → Int64) (line_15 : Nat → Int64) (makers_16 : Nat → Int64) (touches_17 : Nat → Int64) (made_18 : Nat → Int64) (kindForm_19 : Nat → Int64) (kindTurns_20 : Nat → Int32) (kindWays_21 : Nat → Int32) => if 0 ≤ r_2 then (bd1 (fX7_in p1.toInt64 (0 : Int64) (kinds_6 - (1 : Int32)).toInt64) (fun (r_22 : Int32) => nm (fun (s_25 : Int32) => some (s_25, turns_3, lineT_4, lineU_5, kinds_6, q_7, base_8, least_9, table_10, rows_11, lists_12, listSize_13, tried_14, line_15, makers_16, touches_17, made_18, kindForm_19, kindTurns_20, kindWays_21)) (fun (k74 : (Int32) → Option (Int32 × (Int32) × (Int32) × (Int32) × (Int32) × (Nat → Int64) × (Nat → Int64) × (Nat → Int64) × (Nat → Int64) × (Nat → Int64) × (Nat → Int64) × (Nat → Int32) × (Nat → Int64) × (Nat → Int64) × (Nat → Int64) × (Nat → Int64) × (Nat → Int64) × (Nat → Int64) × (Nat → Int32) × (Nat → Int32))) => nm ((k74 (-100001 : Int32))) (fun (k72 : Option (Int32 × (Int32) × (Int32) × (Int32) × (Int32) × (Nat → Int64) × (Nat → Int64) × (Nat → Int64) × (Nat → Int64) × (Nat → Int64) × (Nat → Int64) × (Nat → Int32) × (Nat → Int64) × (Nat → Int64) × (Nat → Int64) × (Nat → Int64) × (Nat → Int64) × (Nat → Int64) × (Nat → Int32) × (Nat → Int32))) => if r_22 = 0 then ((k72)) else (bd1 (fX7_in p2.toInt64 (0 : Int64) (kinds_6 - (1 : Int32)).toInt64) (fun (r_23 : Int32) => if r_23 = 0 then ((k72)) else (nm (((16 : Int32) * p1) + p2) (fun (v_24 : Int32) => if okI v_24 272 then (k74 (kindWays_21 v_24.toNatClampNeg)) else none)))))))) else (some (r_2, turns_3, lineT_4, lineU_5, kinds_6, q_7, base_8, least_9, table_10, rows_11, lists_12, listSize_13, tried_14, line_15, makers_16, touches_17, made_18, kindForm_19, kindTurns_20, kindWays_21)))))
def lkX7_ways : List Cond := [.constant RX7 170 (-100001), .fieldLink RX7 221 "KinFormsModel" "kinds" "I", .fieldLink RX7 63 "KinFormsModel" "kindWays" "[I"]
def vX7_ways : List Cond := .code yX7_ways cX7_ways 5 (some .int) :: (lkX7_ways ++ (wsX70 ++ (wsV RX7 166 RX7 yX7_isForm vX7_isForm ++ (wsV RX7 235 RX7 yX7_findKin vX7_findKin ++ (va_wsS RX7 147 yX7_in vX7_in ++ ([]))))))
theorem q_X7_ways : ∀ w ∈ vX7_ways, goodWord w = true := gd_cons rfl (gd_app (by decide +kernel) (gd_app q_wsX70 (gd_app (gd_V q_X7_isForm) (gd_app (gd_V q_X7_findKin) (gd_app (gd_S q_X7_in) gd_nil)))))
theorem g_X7_ways_X7_isForm : GoodIn vX7_ways (wsV RX7 166 RX7 yX7_isForm vX7_isForm) := gi_of (fun w h => List.mem_cons_of_mem _ (List.mem_append_right _ (List.mem_append_right _ (List.mem_append_left _ h)))) (gd_V q_X7_isForm)
theorem g_X7_ways_X7_findKin : GoodIn vX7_ways (wsV RX7 235 RX7 yX7_findKin vX7_findKin) := gi_of (fun w h => List.mem_cons_of_mem _ (List.mem_append_right _ (List.mem_append_right _ (List.mem_append_right _ (List.mem_append_left _ h))))) (gd_V q_X7_findKin)
theorem g_X7_ways_X7_in : GoodIn vX7_ways (va_wsS RX7 147 yX7_in vX7_in) := gi_of (fun w h => List.mem_cons_of_mem _ (List.mem_append_right _ (List.mem_append_right _ (List.mem_append_right _ (List.mem_append_right _ (List.mem_append_left _ h)))))) (gd_S q_X7_in)
abbrev rmX7_ways : Room := { frames := 7, cells := 0, slots := 0, locals := 192 }
set_option maxHeartbeats 4000000 in
set_option maxRecDepth 100000 in
theorem c_X7_ways (l : Launch) (dC : Nat → ClassId) (dI : Nat → Nat → Nat) (cI : ClassId) (cJ : ClassId) (h : Nat) (a : Nat → Nat) (fu : Nat) (sz : Nat) (forms : Int32) (prime : Int32) (turns : Int32) (lineT : Int32) (lineU : Int32) (kinds : Int32) (upper : Int64) (lower : Int64) (numbers : Nat → Int32) (q : Nat → Int64) (base : Nat → Int64) (least : Nat → Int64) (table : Nat → Int64) (rows : Nat → Int64) (lists : Nat → Int64) (listSize : Nat → Int32) (tried : Nat → Int64) (other : Nat → Int64) (line : Nat → Int64) (makers : Nat → Int64) (touches : Nat → Int64) (made : Nat → Int64) (kindForm : Nat → Int64) (kindTurns : Nat → Int32) (kindWays : Nat → Int32) (p0 : Int32) (p1 : Int32) (p2 : Int32) (ro : Int32) (o_turns : Int32) (o_lineT : Int32) (o_lineU : Int32) (o_kinds : Int32) (o_q : Nat → Int64) (o_base : Nat → Int64) (o_least : Nat → Int64) (o_table : Nat → Int64) (o_rows : Nat → Int64) (o_lists : Nat → Int64) (o_listSize : Nat → Int32) (o_tried : Nat → Int64) (o_line : Nat → Int64) (o_makers : Nat → Int64) (o_touches : Nat → Int64) (o_made : Nat → Int64) (o_kindForm : Nat → Int64) (o_kindTurns : Nat → Int32) (o_kindWays : Nat → Int32) (hF : fX7_ways fu forms prime turns lineT lineU kinds numbers q base least table rows lists listSize tried line makers touches made kindForm kindTurns kindWays p0 p1 p2 = some (ro, o_turns, o_lineT, o_lineU, o_kinds, o_q, o_base, o_least, o_table, o_rows, o_lists, o_listSize, o_tried, o_line, o_makers, o_touches, o_made, o_kindForm, o_kindTurns, o_kindWays)) : Met l yX7_ways vX7_ways rmX7_ways (va_Pc [.ref h, .int p0, .int p1, .int p2] (mPc (dC, dI) vwCl (mW cI cJ h a forms prime turns lineT lineU kinds upper lower numbers q base least table rows lists listSize tried other line makers touches made kindForm kindTurns kindWays) [(cI, .int), (cJ, .long)] sz)) (va_Qi (fun x (_ : Unit) => x = ro) (mPo (dC, dI) vwCl (mW cI cJ h a forms prime o_turns o_lineT o_lineU o_kinds upper lower numbers o_q o_base o_least o_table o_rows o_lists o_listSize o_tried other o_line o_makers o_touches o_made o_kindForm o_kindTurns o_kindWays) [(cI, .int), (cJ, .long)] (va_A (mW cI cJ h a forms prime turns lineT lineU kinds upper lower numbers q base least table rows lists listSize tried other line makers touches made kindForm kindTurns kindWays) sz)) (va_A (mW cI cJ h a forms prime turns lineT lineU kinds upper lower numbers q base least table rows lists listSize tried other line makers touches made kindForm kindTurns kindWays) sz)) 0 0 (va_A (mW cI cJ h a forms prime turns lineT lineU kinds upper lower numbers q base least table rows lists listSize tried other line makers touches made kindForm kindTurns kindWays) sz) := by
  refine Met.ofW (cc := cX7_ways) (maxL := 5) (ret := (some .int)) (by decide) rfl ?_
  intro p e s m args below meth c s₁ B hml hv
  obtain ⟨rfl, hsz, hP, hK, hD0⟩ := hv
  have hx := B.exec
  have hb := B.bytes
  have hr := B.returns
  have hts := atoms_spec (ws := vX7_ways) B.pre
  have hlk : ∀ w ∈ lkX7_ways, w.before _ s = true := fun w h => hts w (List.mem_cons_of_mem _ (List.mem_append_left _ h))
  have hown : s.vm.findClass RX7 = some m.cls := findClass_of_methodNamed B.named
  have hlocks := B.notSynchronized
  subst hsz
  have hD := hD0.self (sz := s.heap.size)
  generalize hAe : va_A (mW cI cJ h a forms prime turns lineT lineU kinds upper lower numbers q base least table rows lists listSize tried other line makers touches made kindForm kindTurns kindWays) s.heap.size = A at hD ⊢
  have hA : ∀ q : Nat, s.heap.size ≤ q → A q := fun q h => by rw [← hAe]; exact Or.inr h
  have hS : va_S A s.heap s.heap [] := va_S.rf
  have hinX7 : ∀ w ∈ wsX70, w ∈ vX7_ways := fun w h => List.mem_cons_of_mem _ (List.mem_append_right _ (List.mem_append_left _ h))
  have hf_221 := hlk (.fieldLink RX7 221 "KinFormsModel" "kinds" "I") (by decide +kernel)
  have hf_63 := hlk (.fieldLink RX7 63 "KinFormsModel" "kindWays" "[I") (by decide +kernel)
  have hl := lv_entry ([.ref h, .int p0, .int p1, .int p2] : List Value) (n := 5) (Nat.le_of_ble_eq_true rfl)
  rw [lg_entry_eq]
  generalize (lg_sl ([.ref h, .int p0, .int p1, .int p2] : List Value) ++ List.replicate (5 - (lg_sl ([.ref h, .int p0, .int p1, .int p2] : List Value)).length) Slot.unset).toArray = ls at hl ⊢
  have hl : lv_has ls 5 [(0, .ref h), (1, .int p0), (2, .int p1), (3, .int p2)] := hl
  unfold fX7_ways at hF
  refine W_Q (fun Q hQ => ?_)
  have hP : va_P (dC, dI) vwCl (mW cI cJ h a forms prime turns lineT lineU kinds upper lower numbers q base least table rows lists listSize tried other line makers touches made kindForm kindTurns kindWays) s.heap := hP
  refine W_HL (fun H locs eH eL => ?_)
  rw [← eH] at hP
  have hS : va_S A s.heap H locs := by rw [eH, eL]; exact hS
  refine lv_aload_n hx hb dX7_ways_0 rfl (lv_at hl 0 rfl) ?_
  refine lv_iload_n hx hb dX7_ways_1 rfl (lv_at hl 1 rfl) ?_
  obtain ⟨r_1, hc, hF⟩ := bd1_of hF
  refine rc_i (va_runV (As := [.int p0]) (rest := []) ⟨hx, hb, hml, hown, hts⟩ (c_X7_isForm l dC dI cI cJ h a forms prime turns lineT lineU kinds upper lower numbers q base least table rows lists listSize tried other line makers touches made kindForm kindTurns kindWays p0 r_1 hc) (cwV 1 hts g_X7_ways_X7_isForm rfl rfl rfl (by decide +kernel) ⟨Nat.le_of_ble_eq_true rfl, Nat.le_of_ble_eq_true rfl⟩) ⟨rPc_blind, va_recv hK hP (ci := 5) (q0 := 0) rfl rfl, rPc_at hK hP⟩ rfl rfl hl.1 rfl (lv_room (Nat.le_of_ble_eq_true rfl)) dX7_ways_2 ⟨Nat.zero_le _, Nat.zero_le _⟩) ?_
  refine lv_if_ne (tgt := 11) hx hb dX7_ways_5 (by decide) (fun c0 => ?_) (fun c0 => ?_)
  · have hF := if_f hF c0
    refine lv_aload_n hx hb dX7_ways_11 rfl (lv_at hl 0 rfl) ?_
    refine lv_iload_n hx hb dX7_ways_12 rfl (lv_at hl 1 rfl) ?_
    obtain ⟨r_2, turns_3, lineT_4, lineU_5, kinds_6, q_7, base_8, least_9, table_10, rows_11, lists_12, listSize_13, tried_14, line_15, makers_16, touches_17, made_18, kindForm_19, kindTurns_20, kindWays_21, hc, hF⟩ := bd20_of hF
    refine mc_i (va_runV (As := [.int p0]) (rest := []) ⟨hx, hb, hml, hown, hts⟩ (c_X7_findKin l dC dI cI cJ h a fu H.size forms prime turns lineT lineU kinds upper lower numbers q base least table rows lists listSize tried other line makers touches made kindForm kindTurns kindWays p0 r_2 turns_3 lineT_4 lineU_5 kinds_6 q_7 base_8 least_9 table_10 rows_11 lists_12 listSize_13 tried_14 line_15 makers_16 touches_17 made_18 kindForm_19 kindTurns_20 kindWays_21 hc) (cwV 1 hts g_X7_ways_X7_findKin rfl rfl rfl (by decide +kernel) ⟨Nat.le_of_ble_eq_true rfl, Nat.le_of_ble_eq_true rfl⟩) ⟨mPc_blind, va_recv hK hP (ci := 5) (q0 := 0) rfl rfl, mPc_at hK hP hD⟩ rfl rfl hl.1 rfl (lv_room (Nat.le_of_ble_eq_true rfl)) dX7_ways_13 ⟨Nat.zero_le _, Nat.zero_le _⟩) hS (fr_all hD hS hA) (fun H locs hP hD hS => ?_)
    refine lv_istore (lv' := [(4, .int r_2), (0, .ref h), (1, .int p0), (2, .int p1), (3, .int p2)]) hx hb dX7_ways_16 hl (by decide) rfl (fun ls hl => ?_)
    refine lv_iload hx hb dX7_ways_18 (lv_at hl 0 rfl) ?_
    refine lv_if_ge (tgt := 26) hx hb dX7_ways_20 (by decide) (fun c0 => ?_) (fun c0 => ?_)
    · have hF := if_t hF c0
      refine lv_iload_n hx hb dX7_ways_26 rfl (lv_at hl 3 rfl) ?_
      refine lv_i2l (v := p1.toInt64) hx hb dX7_ways_27 rfl ?_
      refine lv_lconst (v := 0) hx hb dX7_ways_28 (by decide) ?_
      refine lv_aload_n hx hb dX7_ways_29 rfl (lv_at hl 1 rfl) ?_
      refine va_get (D := (dC, dI)) (ci := 5) (v := .int kinds_6) (C := RX7) (T := TX7) (N := 25) hx hb hts hinX7 hown hK hP 0 rfl rfl 19 (by decide) hf_221 (fun _ h9 => h9) rfl dX7_ways_30 ?_
      refine lv_iconst (v := 1) hx hb dX7_ways_33 (by decide) ?_
      refine lv_isub hx hb dX7_ways_34 ?_
      refine lv_i2l (v := (kinds_6 - (1 : Int32)).toInt64) hx hb dX7_ways_35 rfl ?_
      obtain ⟨r_22, hc, hF⟩ := bd1_of hF
      refine rc_i (va_runS (As := [.long p1.toInt64, .long (0 : Int64), .long (kinds_6 - (1 : Int32)).toInt64]) (rest := []) ⟨hx, hb, hml, hown, hts⟩ (c_X7_in l p1.toInt64 (0 : Int64) (kinds_6 - (1 : Int32)).toInt64 r_22 hc) (va_cwS 3 hts g_X7_ways_X7_in rfl rfl rfl (by decide +kernel) ⟨Nat.le_of_ble_eq_true rfl, Nat.le_of_ble_eq_true rfl⟩) ⟨tPc_blind, tPc_at⟩ rfl rfl hl.1 rfl (lv_room (Nat.le_of_ble_eq_true rfl)) dX7_ways_36 ⟨Nat.zero_le _, Nat.zero_le _⟩) ?_
      obtain ⟨k74, e_k74, hF⟩ := nm_ex hF
      have hk74 : ∀ (s_25 : Int32) (H : Heap) (locs : List Loc) (ls : Array Slot), va_P (dC, dI) vwCl (mW cI cJ h a forms prime turns_3 lineT_4 lineU_5 kinds_6 upper lower numbers q_7 base_8 least_9 table_10 rows_11 lists_12 listSize_13 tried_14 other line_15 makers_16 touches_17 made_18 kindForm_19 kindTurns_20 kindWays_21) H → va_D A (mW cI cJ h a forms prime turns_3 lineT_4 lineU_5 kinds_6 upper lower numbers q_7 base_8 least_9 table_10 rows_11 lists_12 listSize_13 tried_14 other line_15 makers_16 touches_17 made_18 kindForm_19 kindTurns_20 kindWays_21) → va_S A s.heap H locs → lv_has ls 5 [] → k74 s_25 = some (ro, o_turns, o_lineT, o_lineU, o_kinds, o_q, o_base, o_least, o_table, o_rows, o_lists, o_listSize, o_tried, o_line, o_makers, o_touches, o_made, o_kindForm, o_kindTurns, o_kindWays) → W p l e rmX7_ways s m ([.ref h, .int p0, .int p1, .int p2] : List Value).toArray below meth c H locs 0 0 Q (F0 m 74 ls [.int s_25]) := by
        intro s_25 H locs ls hP hD hS hl hF
        have hF := ka1 e_k74 hF
        obtain ⟨q0, q1, q2, q3, q4, q5, q6, q7, q8, q9, q10, q11, q12, q13, q14, q15, q16, q17, q18, q19⟩ := sm20 hF
        have hP : va_P (dC, dI) vwCl (mW cI cJ h a forms prime o_turns o_lineT o_lineU o_kinds upper lower numbers o_q o_base o_least o_table o_rows o_lists o_listSize o_tried other o_line o_makers o_touches o_made o_kindForm o_kindTurns o_kindWays) H := by rw [← q1, ← q2, ← q3, ← q4, ← q5, ← q6, ← q7, ← q8, ← q9, ← q10, ← q11, ← q12, ← q13, ← q14, ← q15, ← q16, ← q17, ← q18, ← q19]; exact hP
        have hD : va_D A (mW cI cJ h a forms prime o_turns o_lineT o_lineU o_kinds upper lower numbers o_q o_base o_least o_table o_rows o_lists o_listSize o_tried other o_line o_makers o_touches o_made o_kindForm o_kindTurns o_kindWays) := by rw [← q1, ← q2, ← q3, ← q4, ← q5, ← q6, ← q7, ← q8, ← q9, ← q10, ← q11, ← q12, ← q13, ← q14, ← q15, ← q16, ← q17, ← q18, ← q19]; exact hD
        refine W_Qe hQ ?_
        exact W.iret hx hb hr (fun t ht hW => ⟨⟨s_25, (), rfl, q0, by rw [ht]; exact hP, va_K.moved hW.alike hK, hD⟩, hS.F ht⟩) hS.2.2 dX7_ways_74
      clear e_k74
      obtain ⟨k72, e_k72, hF⟩ := nm_ex hF
      have hk72 : ∀  (H : Heap) (locs : List Loc) (ls : Array Slot), va_P (dC, dI) vwCl (mW cI cJ h a forms prime turns_3 lineT_4 lineU_5 kinds_6 upper lower numbers q_7 base_8 least_9 table_10 rows_11 lists_12 listSize_13 tried_14 other line_15 makers_16 touches_17 made_18 kindForm_19 kindTurns_20 kindWays_21) H → va_D A (mW cI cJ h a forms prime turns_3 lineT_4 lineU_5 kinds_6 upper lower numbers q_7 base_8 least_9 table_10 rows_11 lists_12 listSize_13 tried_14 other line_15 makers_16 touches_17 made_18 kindForm_19 kindTurns_20 kindWays_21) → va_S A s.heap H locs → lv_has ls 5 [] → k72 = some (ro, o_turns, o_lineT, o_lineU, o_kinds, o_q, o_base, o_least, o_table, o_rows, o_lists, o_listSize, o_tried, o_line, o_makers, o_touches, o_made, o_kindForm, o_kindTurns, o_kindWays) → W p l e rmX7_ways s m ([.ref h, .int p0, .int p1, .int p2] : List Value).toArray below meth c H locs 0 0 Q (F0 m 72 ls []) := by
        intro H locs ls hP hD hS hl hF
        have hF := ka0 e_k72 hF
        refine lv_ldc (v := (-100001)) hx hb hown (hlk (.constant RX7 170 (-100001)) (by decide +kernel)) dX7_ways_72 ?_
        exact hk74 (-100001 : Int32) H locs ls hP hD hS (lv_sub hl [] rfl) hF
      clear e_k72
      refine lv_if_eq (tgt := 72) hx hb dX7_ways_39 (by decide) (fun c0 => ?_) (fun c0 => ?_)
      · have hF := if_t hF c0
        exact hk72 H locs ls hP hD hS (lv_sub hl [] rfl) hF
      · have hF := if_f hF c0
        refine lv_iload_n hx hb dX7_ways_42 rfl (lv_at hl 4 rfl) ?_
        refine lv_i2l (v := p2.toInt64) hx hb dX7_ways_43 rfl ?_
        refine lv_lconst (v := 0) hx hb dX7_ways_44 (by decide) ?_
        refine lv_aload_n hx hb dX7_ways_45 rfl (lv_at hl 1 rfl) ?_
        refine va_get (D := (dC, dI)) (ci := 5) (v := .int kinds_6) (C := RX7) (T := TX7) (N := 25) hx hb hts hinX7 hown hK hP 0 rfl rfl 19 (by decide) hf_221 (fun _ h9 => h9) rfl dX7_ways_46 ?_
        refine lv_iconst (v := 1) hx hb dX7_ways_49 (by decide) ?_
        refine lv_isub hx hb dX7_ways_50 ?_
        refine lv_i2l (v := (kinds_6 - (1 : Int32)).toInt64) hx hb dX7_ways_51 rfl ?_
        obtain ⟨r_23, hc, hF⟩ := bd1_of hF
        refine rc_i (va_runS (As := [.long p2.toInt64, .long (0 : Int64), .long (kinds_6 - (1 : Int32)).toInt64]) (rest := []) ⟨hx, hb, hml, hown, hts⟩ (c_X7_in l p2.toInt64 (0 : Int64) (kinds_6 - (1 : Int32)).toInt64 r_23 hc) (va_cwS 3 hts g_X7_ways_X7_in rfl rfl rfl (by decide +kernel) ⟨Nat.le_of_ble_eq_true rfl, Nat.le_of_ble_eq_true rfl⟩) ⟨tPc_blind, tPc_at⟩ rfl rfl hl.1 rfl (lv_room (Nat.le_of_ble_eq_true rfl)) dX7_ways_52 ⟨Nat.zero_le _, Nat.zero_le _⟩) ?_
        refine lv_if_eq (tgt := 72) hx hb dX7_ways_55 (by decide) (fun c0 => ?_) (fun c0 => ?_)
        · have hF := if_t hF c0
          exact hk72 H locs ls hP hD hS (lv_sub hl [] rfl) hF
        · have hF := if_f hF c0
          refine lv_aload_n hx hb dX7_ways_58 rfl (lv_at hl 1 rfl) ?_
          refine va_get (D := (dC, dI)) (ci := 5) (v := .ref (a 17)) (C := RX7) (T := TX7) (N := 25) hx hb hts hinX7 hown hK hP 0 rfl rfl 22 (by decide) hf_63 (fun _ h9 => h9) rfl dX7_ways_59 ?_
          refine lv_bipush (v := (16)) hx hb dX7_ways_62 (by decide) ?_
          refine lv_iload_n hx hb dX7_ways_64 rfl (lv_at hl 3 rfl) ?_
          refine lv_imul hx hb dX7_ways_65 ?_
          refine lv_iload_n hx hb dX7_ways_66 rfl (lv_at hl 4 rfl) ?_
          refine lv_iadd hx hb dX7_ways_67 ?_
          refine lv_topi (fun v_24 e_v_24 => ?_)
          have hF := nm_at hF e_v_24
          obtain ⟨hi, hF⟩ := ck_of hF
          refine va_iald hx hb hK hP 17 0 rfl rfl hi dX7_ways_68 ?_
          refine lv_goto (tgt := 74) hx hb dX7_ways_69 (by decide) ?_
          exact hk74 (kindWays_21 v_24.toNatClampNeg) H locs ls hP hD hS (lv_sub hl [] rfl) hF
    · have hF := if_f hF c0
      refine lv_iload hx hb dX7_ways_23 (lv_at hl 0 rfl) ?_
      obtain ⟨q0, q1, q2, q3, q4, q5, q6, q7, q8, q9, q10, q11, q12, q13, q14, q15, q16, q17, q18, q19⟩ := sm20 hF
      have hP : va_P (dC, dI) vwCl (mW cI cJ h a forms prime o_turns o_lineT o_lineU o_kinds upper lower numbers o_q o_base o_least o_table o_rows o_lists o_listSize o_tried other o_line o_makers o_touches o_made o_kindForm o_kindTurns o_kindWays) H := by rw [← q1, ← q2, ← q3, ← q4, ← q5, ← q6, ← q7, ← q8, ← q9, ← q10, ← q11, ← q12, ← q13, ← q14, ← q15, ← q16, ← q17, ← q18, ← q19]; exact hP
      have hD : va_D A (mW cI cJ h a forms prime o_turns o_lineT o_lineU o_kinds upper lower numbers o_q o_base o_least o_table o_rows o_lists o_listSize o_tried other o_line o_makers o_touches o_made o_kindForm o_kindTurns o_kindWays) := by rw [← q1, ← q2, ← q3, ← q4, ← q5, ← q6, ← q7, ← q8, ← q9, ← q10, ← q11, ← q12, ← q13, ← q14, ← q15, ← q16, ← q17, ← q18, ← q19]; exact hD
      refine W_Qe hQ ?_
      exact W.iret hx hb hr (fun t ht hW => ⟨⟨r_2, (), rfl, q0, by rw [ht]; exact hP, va_K.moved hW.alike hK, hD⟩, hS.F ht⟩) hS.2.2 dX7_ways_25
  · have hF := if_t hF c0
    refine lv_ldc (v := (-100001)) hx hb hown (hlk (.constant RX7 170 (-100001)) (by decide +kernel)) dX7_ways_8 ?_
    obtain ⟨q0, q1, q2, q3, q4, q5, q6, q7, q8, q9, q10, q11, q12, q13, q14, q15, q16, q17, q18, q19⟩ := sm20 hF
    have hP : va_P (dC, dI) vwCl (mW cI cJ h a forms prime o_turns o_lineT o_lineU o_kinds upper lower numbers o_q o_base o_least o_table o_rows o_lists o_listSize o_tried other o_line o_makers o_touches o_made o_kindForm o_kindTurns o_kindWays) H := by rw [← q1, ← q2, ← q3, ← q4, ← q5, ← q6, ← q7, ← q8, ← q9, ← q10, ← q11, ← q12, ← q13, ← q14, ← q15, ← q16, ← q17, ← q18, ← q19]; exact hP
    have hD : va_D A (mW cI cJ h a forms prime o_turns o_lineT o_lineU o_kinds upper lower numbers o_q o_base o_least o_table o_rows o_lists o_listSize o_tried other o_line o_makers o_touches o_made o_kindForm o_kindTurns o_kindWays) := by rw [← q1, ← q2, ← q3, ← q4, ← q5, ← q6, ← q7, ← q8, ← q9, ← q10, ← q11, ← q12, ← q13, ← q14, ← q15, ← q16, ← q17, ← q18, ← q19]; exact hD
    refine W_Qe hQ ?_
    exact W.iret hx hb hr (fun t ht hW => ⟨⟨(-100001 : Int32), (), rfl, q0, by rw [ht]; exact hP, va_K.moved hW.alike hK, hD⟩, hS.F ht⟩) hS.2.2 dX7_ways_10
