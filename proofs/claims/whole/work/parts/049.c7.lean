def fX6_goesIntoDisc (p_ : Int32) (f_disc : Int32) (p0 : Int32) : Option (Int32) :=
  if okI p0 12 then if ¬ p_ = 0 then nm (fun (s_2 : Int32) => if s_2 = 0 ∨ s_2 = 1 then some s_2 else none) (fun (k22 : (Int32) → Option (Int32)) => if (f_disc - f_disc / p_ * p_) = 0 then ((k22 (1 : Int32))) else ((k22 (0 : Int32)))) else none else none
def lkX6_goesIntoDisc : List Cond := [.fieldLink RX6 11 "KinForms" "forms" "[LKinForms$Form;", .fieldLink RX6 44 "KinForms" "p" "I"]
def vX6_goesIntoDisc : List Cond := .code yX6_goesIntoDisc cX6_goesIntoDisc 2 (some .boolean) :: (lkX6_goesIntoDisc ++ (wsX60 ++ (wsX10 ++ ([]))))
theorem q_X6_goesIntoDisc : ∀ w ∈ vX6_goesIntoDisc, goodWord w = true := gd_cons rfl (gd_app (by decide +kernel) (gd_app q_wsX60 (gd_app q_wsX10 gd_nil)))
abbrev rmX6_goesIntoDisc : Room := { frames := 0, cells := 0, slots := 0, locals := 0 }
set_option maxHeartbeats 4000000 in
set_option maxRecDepth 100000 in
theorem c_X6_goesIntoDisc (l : Launch) (dC : Nat → ClassId) (dI : Nat → Nat → Nat) (cI : ClassId) (cF : ClassId) (h : Nat) (a : Nat → Nat) (fo : Nat) (ga : Nat → Nat) (held : Int32) (p_ : Int32) (fr : Nat → Option Nat) (f_disc : Int32) (f_turns : Int32) (p0 : Int32) (ro : Int32) (hfo : okI p0 12 → fr p0.toNatClampNeg = some fo) (hF : fX6_goesIntoDisc p_ f_disc p0 = some ro) : Met l yX6_goesIntoDisc vX6_goesIntoDisc rmX6_goesIntoDisc (va_Pc [.ref h, .int p0] (rPk (dC, dI) vwCl (kdW cI cF h a fo ga held p_ fr f_disc f_turns) [(cI, .int), (cF, .object "KinForms$Form")])) (vp_Si (fun x => x = ro)) 0 0 (fun _ => False) := by
  refine Met.ofW (cc := cX6_goesIntoDisc) (maxL := 2) (ret := (some .boolean)) (by decide) rfl ?_
  intro p e s m args below meth c s₁ B hml hv
  obtain ⟨rfl, hP, hK, hN⟩ := hv
  have hx := B.exec
  have hb := B.bytes
  have hr := B.returns
  have hts := atoms_spec (ws := vX6_goesIntoDisc) B.pre
  have hlk : ∀ w ∈ lkX6_goesIntoDisc, w.before _ s = true := fun w h => hts w (List.mem_cons_of_mem _ (List.mem_append_left _ h))
  have hown : s.vm.findClass RX6 = some m.cls := findClass_of_methodNamed B.named
  have hlocks := B.notSynchronized
  have hinX6 : ∀ w ∈ wsX60, w ∈ vX6_goesIntoDisc := fun w h => List.mem_cons_of_mem _ (List.mem_append_right _ (List.mem_append_left _ h))
  have hinX1 : ∀ w ∈ wsX10, w ∈ vX6_goesIntoDisc := fun w h => List.mem_cons_of_mem _ (List.mem_append_right _ (List.mem_append_right _ (List.mem_append_left _ h)))
  have hf_11 := hlk (.fieldLink RX6 11 "KinForms" "forms" "[LKinForms$Form;") (by decide +kernel)
  have hf_76 := va_Nw.use (A := ([.ref h, .int p0] : List Value).toArray) rfl (hN.1 (RX6, 76, "KinForms$Form", "disc", "I", "KinForms") (by decide +kernel))
  have hf_44 := hlk (.fieldLink RX6 44 "KinForms" "p" "I") (by decide +kernel)
  have hl := lv_entry ([.ref h, .int p0] : List Value) (n := 2) (Nat.le_of_ble_eq_true rfl)
  rw [lg_entry_eq]
  generalize (lg_sl ([.ref h, .int p0] : List Value) ++ List.replicate (2 - (lg_sl ([.ref h, .int p0] : List Value)).length) Slot.unset).toArray = ls at hl ⊢
  have hl : lv_has ls 2 [(0, .ref h), (1, .int p0)] := hl
  unfold fX6_goesIntoDisc at hF
  refine W_Q (fun Q hQ => ?_)
  refine lv_aload_n hx hb dX6_goesIntoDisc_0 rfl (lv_at hl 0 rfl) ?_
  refine va_get (D := (dC, dI)) (ci := 4) (v := .ref (a 1)) (C := RX6) (T := TX6) (N := 8) hx hb hts hinX6 hown hK hP 0 rfl rfl 0 (by decide) hf_11 (fun _ h9 => h9) rfl dX6_goesIntoDisc_1 ?_
  refine lv_iload_n hx hb dX6_goesIntoDisc_4 rfl (lv_at hl 1 rfl) ?_
  obtain ⟨hg_1, hF⟩ := ck_of hF
  refine kc_aald (y := fo) hx hb hK hP 1 1 rfl rfl (hfo hg_1) hg_1 dX6_goesIntoDisc_5 ?_
  refine va_getN (D := (dC, dI)) (ci := 1) (v := .int f_disc) (C := RX1) (T := TX1) (N := 6) hx hb hts hinX1 hown hK hP 2 rfl rfl 4 (by decide) hf_76 (fun _ h9 => h9) rfl dX6_goesIntoDisc_6 ?_
  refine lv_aload_n hx hb dX6_goesIntoDisc_9 rfl (lv_at hl 0 rfl) ?_
  refine va_get (D := (dC, dI)) (ci := 4) (v := .int p_) (C := RX6) (T := TX6) (N := 8) hx hb hts hinX6 hown hK hP 0 rfl rfl 7 (by decide) hf_44 (fun _ h9 => h9) rfl dX6_goesIntoDisc_10 ?_
  obtain ⟨hz, hF⟩ := ck_of hF
  refine lv_irem hx hb dX6_goesIntoDisc_13 hz ?_
  obtain ⟨k22, e_k22, hF⟩ := nm_ex hF
  have hk22 : ∀ (s_2 : Int32) (ls : Array Slot), lv_has ls 2 [] → k22 s_2 = some ro → W p l e rmX6_goesIntoDisc s m ([.ref h, .int p0] : List Value).toArray below meth c s.heap [] 0 0 Q (F0 m 22 ls [.int s_2]) := by
    intro s_2 ls hl hF
    have hF := ka1 e_k22 hF
    obtain ⟨hz, hF⟩ := ck_of hF
    have q0 := sm1 hF
    refine W_Qe hQ ?_
    exact W.zret (ty := .boolean) hx hb hr (nz_bool hz) (fun t ht hW => ⟨_, rfl, q0, ht⟩) (fun _ h9 => by cases h9) dX6_goesIntoDisc_22
  clear e_k22
  refine lv_if_ne (tgt := 21) hx hb dX6_goesIntoDisc_14 (by decide) (fun c0 => ?_) (fun c0 => ?_)
  · have hF := if_f hF c0
    refine lv_iconst (v := 0) hx hb dX6_goesIntoDisc_21 (by decide) ?_
    exact hk22 (0 : Int32) ls (lv_sub hl [] rfl) hF
  · have hF := if_t hF c0
    refine lv_iconst (v := 1) hx hb dX6_goesIntoDisc_17 (by decide) ?_
    refine lv_goto (tgt := 22) hx hb dX6_goesIntoDisc_18 (by decide) ?_
    exact hk22 (1 : Int32) ls (lv_sub hl [] rfl) hF
def fX6_refusalOfLine (held : Int32) (p_ : Int32) (f_disc : Int32) (p0 : Int32) (p1 : Int32) (p2 : Int32) (p3 : Int32) : Option (Int32) :=
  bd1 (fX6_isUnknown held p0) (fun (r_1 : Int32) => if r_1 = 0 then (bd1 (fX6_isOutside p1 (0 : Int32) p_) (fun (r_2 : Int32) => nm (some (-100002 : Int32)) (fun (k33 : Option (Int32)) => if r_2 = 0 then (bd1 (fX6_isOutside p2 (0 : Int32) p3) (fun (r_3 : Int32) => if r_3 = 0 then (bd1 (fX6_goesIntoDisc p_ f_disc p0) (fun (r_4 : Int32) => nm (fun (s_5 : Int32) => some s_5) (fun (k50 : (Int32) → Option (Int32)) => if r_4 = 0 then ((k50 (0 : Int32))) else ((k50 (-100003 : Int32)))))) else ((k33)))) else ((k33))))) else (some (-100001 : Int32)))
def lkX6_refusalOfLine : List Cond := [.constant RX6 68 (-100003), .constant RX6 57 (-100002), .constant RX6 67 (-100001), .fieldLink RX6 44 "KinForms" "p" "I"]
def vX6_refusalOfLine : List Cond := .code yX6_refusalOfLine cX6_refusalOfLine 5 (some .int) :: (lkX6_refusalOfLine ++ (wsX60 ++ (wsV RX6 63 RX6 yX6_isUnknown vX6_isUnknown ++ (va_wsS RX6 69 yX6_isOutside vX6_isOutside ++ (wsV RX6 191 RX6 yX6_goesIntoDisc vX6_goesIntoDisc ++ ([]))))))
theorem q_X6_refusalOfLine : ∀ w ∈ vX6_refusalOfLine, goodWord w = true := gd_cons rfl (gd_app (by decide +kernel) (gd_app q_wsX60 (gd_app (gd_V q_X6_isUnknown) (gd_app (gd_S q_X6_isOutside) (gd_app (gd_V q_X6_goesIntoDisc) gd_nil)))))
theorem g_X6_refusalOfLine_X6_isUnknown : GoodIn vX6_refusalOfLine (wsV RX6 63 RX6 yX6_isUnknown vX6_isUnknown) := gi_of (fun w h => List.mem_cons_of_mem _ (List.mem_append_right _ (List.mem_append_right _ (List.mem_append_left _ h)))) (gd_V q_X6_isUnknown)
theorem g_X6_refusalOfLine_X6_isOutside : GoodIn vX6_refusalOfLine (va_wsS RX6 69 yX6_isOutside vX6_isOutside) := gi_of (fun w h => List.mem_cons_of_mem _ (List.mem_append_right _ (List.mem_append_right _ (List.mem_append_right _ (List.mem_append_left _ h))))) (gd_S q_X6_isOutside)
theorem g_X6_refusalOfLine_X6_goesIntoDisc : GoodIn vX6_refusalOfLine (wsV RX6 191 RX6 yX6_goesIntoDisc vX6_goesIntoDisc) := gi_of (fun w h => List.mem_cons_of_mem _ (List.mem_append_right _ (List.mem_append_right _ (List.mem_append_right _ (List.mem_append_right _ (List.mem_append_left _ h)))))) (gd_V q_X6_goesIntoDisc)
abbrev rmX6_refusalOfLine : Room := { frames := 1, cells := 0, slots := 0, locals := 22 }
set_option maxHeartbeats 4000000 in
set_option maxRecDepth 100000 in
theorem c_X6_refusalOfLine (l : Launch) (dC : Nat → ClassId) (dI : Nat → Nat → Nat) (cI : ClassId) (cF : ClassId) (h : Nat) (a : Nat → Nat) (fo : Nat) (ga : Nat → Nat) (held : Int32) (p_ : Int32) (fr : Nat → Option Nat) (f_disc : Int32) (f_turns : Int32) (p0 : Int32) (p1 : Int32) (p2 : Int32) (p3 : Int32) (ro : Int32) (hfo : okI p0 12 → fr p0.toNatClampNeg = some fo) (hF : fX6_refusalOfLine held p_ f_disc p0 p1 p2 p3 = some ro) : Met l yX6_refusalOfLine vX6_refusalOfLine rmX6_refusalOfLine (va_Pc [.ref h, .int p0, .int p1, .int p2, .int p3] (rPk (dC, dI) vwCl (kdW cI cF h a fo ga held p_ fr f_disc f_turns) [(cI, .int), (cF, .object "KinForms$Form")])) (vp_Si (fun x => x = ro)) 0 0 (fun _ => False) := by
  refine Met.ofW (cc := cX6_refusalOfLine) (maxL := 5) (ret := (some .int)) (by decide) rfl ?_
  intro p e s m args below meth c s₁ B hml hv
  obtain ⟨rfl, hP, hK, hN⟩ := hv
  have hx := B.exec
  have hb := B.bytes
  have hr := B.returns
  have hts := atoms_spec (ws := vX6_refusalOfLine) B.pre
  have hlk : ∀ w ∈ lkX6_refusalOfLine, w.before _ s = true := fun w h => hts w (List.mem_cons_of_mem _ (List.mem_append_left _ h))
  have hown : s.vm.findClass RX6 = some m.cls := findClass_of_methodNamed B.named
  have hlocks := B.notSynchronized
  have hinX6 : ∀ w ∈ wsX60, w ∈ vX6_refusalOfLine := fun w h => List.mem_cons_of_mem _ (List.mem_append_right _ (List.mem_append_left _ h))
  have hf_44 := hlk (.fieldLink RX6 44 "KinForms" "p" "I") (by decide +kernel)
  have hl := lv_entry ([.ref h, .int p0, .int p1, .int p2, .int p3] : List Value) (n := 5) (Nat.le_of_ble_eq_true rfl)
  rw [lg_entry_eq]
  generalize (lg_sl ([.ref h, .int p0, .int p1, .int p2, .int p3] : List Value) ++ List.replicate (5 - (lg_sl ([.ref h, .int p0, .int p1, .int p2, .int p3] : List Value)).length) Slot.unset).toArray = ls at hl ⊢
  have hl : lv_has ls 5 [(0, .ref h), (1, .int p0), (2, .int p1), (3, .int p2), (4, .int p3)] := hl
  unfold fX6_refusalOfLine at hF
  refine W_Q (fun Q hQ => ?_)
  refine lv_aload_n hx hb dX6_refusalOfLine_0 rfl (lv_at hl 0 rfl) ?_
  refine lv_iload_n hx hb dX6_refusalOfLine_1 rfl (lv_at hl 1 rfl) ?_
  obtain ⟨r_1, hc, hF⟩ := bd1_of hF
  refine rc_i (va_runV (As := [.int p0]) (rest := []) ⟨hx, hb, hml, hown, hts⟩ (c_X6_isUnknown l dC dI cI h a held p_ p0 r_1 hc) (cwV 1 hts g_X6_refusalOfLine_X6_isUnknown rfl rfl rfl (by decide +kernel) ⟨Nat.le_of_ble_eq_true rfl, Nat.le_of_ble_eq_true rfl⟩) ⟨rPk_blind, va_recv hK hP (ci := 4) (q0 := 0) rfl rfl, rPk_at (hK.sub (tys' := [(cI, .int)]) [0] rfl) (hP.sub (ws' := (kW0 cI h a held p_)) [0] rfl) hN⟩ rfl rfl hl.1 rfl (lv_room (Nat.le_of_ble_eq_true rfl)) dX6_refusalOfLine_2 ⟨Nat.zero_le _, Nat.zero_le _⟩) ?_
  refine lv_if_eq (tgt := 11) hx hb dX6_refusalOfLine_5 (by decide) (fun c0 => ?_) (fun c0 => ?_)
  · have hF := if_t hF c0
    refine lv_iload_n hx hb dX6_refusalOfLine_11 rfl (lv_at hl 2 rfl) ?_
    refine lv_iconst (v := 0) hx hb dX6_refusalOfLine_12 (by decide) ?_
    refine lv_aload_n hx hb dX6_refusalOfLine_13 rfl (lv_at hl 0 rfl) ?_
    refine va_get (D := (dC, dI)) (ci := 4) (v := .int p_) (C := RX6) (T := TX6) (N := 8) hx hb hts hinX6 hown hK hP 0 rfl rfl 7 (by decide) hf_44 (fun _ h9 => h9) rfl dX6_refusalOfLine_14 ?_
    obtain ⟨r_2, hc, hF⟩ := bd1_of hF
    refine rc_i (va_runS (As := [.int p1, .int (0 : Int32), .int p_]) (rest := []) ⟨hx, hb, hml, hown, hts⟩ (c_X6_isOutside l p1 (0 : Int32) p_ r_2 hc) (va_cwS 3 hts g_X6_refusalOfLine_X6_isOutside rfl rfl rfl (by decide +kernel) ⟨Nat.le_of_ble_eq_true rfl, Nat.le_of_ble_eq_true rfl⟩) ⟨tPc_blind, tPc_at⟩ rfl rfl hl.1 rfl (lv_room (Nat.le_of_ble_eq_true rfl)) dX6_refusalOfLine_17 ⟨Nat.zero_le _, Nat.zero_le _⟩) ?_
    obtain ⟨k33, e_k33, hF⟩ := nm_ex hF
    have hk33 : ∀  (ls : Array Slot), lv_has ls 5 [] → k33 = some ro → W p l e rmX6_refusalOfLine s m ([.ref h, .int p0, .int p1, .int p2, .int p3] : List Value).toArray below meth c s.heap [] 0 0 Q (F0 m 33 ls []) := by
      intro ls hl hF
      have hF := ka0 e_k33 hF
      refine lv_ldc (v := (-100002)) hx hb hown (hlk (.constant RX6 57 (-100002)) (by decide +kernel)) dX6_refusalOfLine_33 ?_
      have q0 := sm1 hF
      refine W_Qe hQ ?_
      exact W.iret hx hb hr (fun t ht hW => ⟨_, rfl, q0, ht⟩) (fun _ h9 => by cases h9) dX6_refusalOfLine_35
    clear e_k33
    refine lv_if_ne (tgt := 33) hx hb dX6_refusalOfLine_20 (by decide) (fun c0 => ?_) (fun c0 => ?_)
    · have hF := if_f hF c0
      exact hk33 ls (lv_sub hl [] rfl) hF
    · have hF := if_t hF c0
      refine lv_iload_n hx hb dX6_refusalOfLine_23 rfl (lv_at hl 3 rfl) ?_
      refine lv_iconst (v := 0) hx hb dX6_refusalOfLine_24 (by decide) ?_
      refine lv_iload hx hb dX6_refusalOfLine_25 (lv_at hl 4 rfl) ?_
      obtain ⟨r_3, hc, hF⟩ := bd1_of hF
      refine rc_i (va_runS (As := [.int p2, .int (0 : Int32), .int p3]) (rest := []) ⟨hx, hb, hml, hown, hts⟩ (c_X6_isOutside l p2 (0 : Int32) p3 r_3 hc) (va_cwS 3 hts g_X6_refusalOfLine_X6_isOutside rfl rfl rfl (by decide +kernel) ⟨Nat.le_of_ble_eq_true rfl, Nat.le_of_ble_eq_true rfl⟩) ⟨tPc_blind, tPc_at⟩ rfl rfl hl.1 rfl (lv_room (Nat.le_of_ble_eq_true rfl)) dX6_refusalOfLine_27 ⟨Nat.zero_le _, Nat.zero_le _⟩) ?_
      refine lv_if_eq (tgt := 36) hx hb dX6_refusalOfLine_30 (by decide) (fun c0 => ?_) (fun c0 => ?_)
      · have hF := if_t hF c0
        refine lv_aload_n hx hb dX6_refusalOfLine_36 rfl (lv_at hl 0 rfl) ?_
        refine lv_iload_n hx hb dX6_refusalOfLine_37 rfl (lv_at hl 1 rfl) ?_
        obtain ⟨r_4, hc, hF⟩ := bd1_of hF
        refine rc_i (va_runV (As := [.int p0]) (rest := []) ⟨hx, hb, hml, hown, hts⟩ (c_X6_goesIntoDisc l dC dI cI cF h a fo ga held p_ fr f_disc f_turns p0 r_4 hfo hc) (cwV 1 hts g_X6_refusalOfLine_X6_goesIntoDisc rfl rfl rfl (by decide +kernel) ⟨Nat.le_of_ble_eq_true rfl, Nat.le_of_ble_eq_true rfl⟩) ⟨rPk_blind, va_recv hK hP (ci := 4) (q0 := 0) rfl rfl, rPk_at hK hP hN⟩ rfl rfl hl.1 rfl (lv_room (Nat.le_of_ble_eq_true rfl)) dX6_refusalOfLine_38 ⟨Nat.zero_le _, Nat.zero_le _⟩) ?_
        obtain ⟨k50, e_k50, hF⟩ := nm_ex hF
        have hk50 : ∀ (s_5 : Int32) (ls : Array Slot), lv_has ls 5 [] → k50 s_5 = some ro → W p l e rmX6_refusalOfLine s m ([.ref h, .int p0, .int p1, .int p2, .int p3] : List Value).toArray below meth c s.heap [] 0 0 Q (F0 m 50 ls [.int s_5]) := by
          intro s_5 ls hl hF
          have hF := ka1 e_k50 hF
          have q0 := sm1 hF
          refine W_Qe hQ ?_
          exact W.iret hx hb hr (fun t ht hW => ⟨_, rfl, q0, ht⟩) (fun _ h9 => by cases h9) dX6_refusalOfLine_50
        clear e_k50
        refine lv_if_eq (tgt := 49) hx hb dX6_refusalOfLine_41 (by decide) (fun c0 => ?_) (fun c0 => ?_)
        · have hF := if_t hF c0
          refine lv_iconst (v := 0) hx hb dX6_refusalOfLine_49 (by decide) ?_
          exact hk50 (0 : Int32) ls (lv_sub hl [] rfl) hF
        · have hF := if_f hF c0
          refine lv_ldc (v := (-100003)) hx hb hown (hlk (.constant RX6 68 (-100003)) (by decide +kernel)) dX6_refusalOfLine_44 ?_
          refine lv_goto (tgt := 50) hx hb dX6_refusalOfLine_46 (by decide) ?_
          exact hk50 (-100003 : Int32) ls (lv_sub hl [] rfl) hF
      · have hF := if_f hF c0
        exact hk33 ls (lv_sub hl [] rfl) hF
  · have hF := if_f hF c0
    refine lv_ldc (v := (-100001)) hx hb hown (hlk (.constant RX6 67 (-100001)) (by decide +kernel)) dX6_refusalOfLine_8 ?_
    have q0 := sm1 hF
    refine W_Qe hQ ?_
    exact W.iret hx hb hr (fun t ht hW => ⟨_, rfl, q0, ht⟩) (fun _ h9 => by cases h9) dX6_refusalOfLine_10
def fX6_form (fu : Nat) (held : Int32) (given : Nat → Int32) (f_disc : Int32) (f_turns : Int32) (f_num : Nat → Int32) (f_least : Nat → Int32) (f_tab : Nat → Int32) (y_by : Int32) (r_ties : Int32) (r_six : Nat → Int32) (r_rows : Nat → Int32) (r_box : Nat → Int32) (r_worth : Nat → Int32) (r_image : Nat → Int32) (r_best : Nat → Int32) (r_bestRows : Nat → Int32) (p0 : Int32) (p1 : Int32) (p2 : Int32) (p3 : Int32) (p4 : Int32) (p5 : Int32) : Option (Int32 × (Int32) × (Nat → Int32) × (Int32) × (Int32) × (Nat → Int32) × (Nat → Int32) × (Nat → Int32) × (Int32) × (Int32) × (Nat → Int32) × (Nat → Int32) × (Nat → Int32) × (Nat → Int32) × (Nat → Int32) × (Nat → Int32)) :=
  bd1 (fX6_give given p0 p1 p2 p3 p4 p5) (fun (given_1 : Nat → Int32) => bd1 (fX4_isForm fu given_1) (fun (r_2 : Int32) => if r_2 = 0 then (some ((-100002 : Int32), held, given_1, f_disc, f_turns, f_num, f_least, f_tab, y_by, r_ties, r_six, r_rows, r_worth, r_image, r_best, r_bestRows)) else (if held < (12 : Int32) then (if okI held 12 then bd13 (fX1_become fu f_num f_least f_tab given_1 r_six r_rows r_box r_worth r_image r_best r_bestRows) (fun (f_disc_4 : Int32) (f_turns_5 : Int32) (f_num_6 : Nat → Int32) (f_least_7 : Nat → Int32) (f_tab_8 : Nat → Int32) (y_by_9 : Int32) (r_ties_10 : Int32) (r_six_11 : Nat → Int32) (r_rows_12 : Nat → Int32) (r_worth_13 : Nat → Int32) (r_image_14 : Nat → Int32) (r_best_15 : Nat → Int32) (r_bestRows_16 : Nat → Int32) => nm (held + (1 : Int32)) (fun (held_17 : Int32) => nm (held_17 - (1 : Int32)) (fun (v_18 : Int32) => some (v_18, held_17, given_1, f_disc_4, f_turns_5, f_num_6, f_least_7, f_tab_8, y_by_9, r_ties_10, r_six_11, r_rows_12, r_worth_13, r_image_14, r_best_15, r_bestRows_16)))) else none) else (some ((-100004 : Int32), held, given_1, f_disc, f_turns, f_num, f_least, f_tab, y_by, r_ties, r_six, r_rows, r_worth, r_image, r_best, r_bestRows)))))
def lkX6_form : List Cond := [.initialized RX4, .static yX4_isForm, .initialized RX1, .instanceMethod yX1_become, .selects RX1 yX1_become yX1_become, .constant RX6 58 (-100004), .constant RX6 57 (-100002), .fieldLink RX6 30 "KinForms" "given" "[I", .fieldLink RX6 40 "KinForms" "held" "I", .fieldLink RX6 11 "KinForms" "forms" "[LKinForms$Form;", .fieldLink RX6 19 "KinForms" "reducer" "LKinForms$Reducer;"]
def vX6_form : List Cond := .code yX6_form cX6_form 7 (some .int) :: (lkX6_form ++ (wsX60 ++ (wsV RX6 47 RX6 yX6_give vX6_give ++ (vX4_isForm ++ (vX1_become ++ ([]))))))
theorem q_X6_form : ∀ w ∈ vX6_form, goodWord w = true := gd_cons rfl (gd_app (by decide +kernel) (gd_app q_wsX60 (gd_app (gd_V q_X6_give) (gd_app q_X4_isForm (gd_app q_X1_become gd_nil)))))
theorem g_X6_form_X6_give : GoodIn vX6_form (wsV RX6 47 RX6 yX6_give vX6_give) := gi_of (fun w h => List.mem_cons_of_mem _ (List.mem_append_right _ (List.mem_append_right _ (List.mem_append_left _ h)))) (gd_V q_X6_give)
theorem g_X6_form_X4_isForm : GoodIn vX6_form (vX4_isForm) := gi_of (fun w h => List.mem_cons_of_mem _ (List.mem_append_right _ (List.mem_append_right _ (List.mem_append_right _ (List.mem_append_left _ h))))) q_X4_isForm
theorem g_X6_form_X1_become : GoodIn vX6_form (vX1_become) := gi_of (fun w h => List.mem_cons_of_mem _ (List.mem_append_right _ (List.mem_append_right _ (List.mem_append_right _ (List.mem_append_right _ (List.mem_append_left _ h)))))) q_X1_become
abbrev rmX6_form : Room := { frames := 6, cells := 0, slots := 0, locals := 139 }
set_option maxHeartbeats 4000000 in
set_option maxRecDepth 100000 in
theorem c_X6_form (l : Launch) (dC : Nat → ClassId) (dI : Nat → Nat → Nat) (cI : ClassId) (cF : ClassId) (h : Nat) (a : Nat → Nat) (fo : Nat) (ga : Nat → Nat) (ya : Nat → Nat) (ra : Nat → Nat) (fu : Nat) (sz : Nat) (held : Int32) (p_ : Int32) (fr : Nat → Option Nat) (given : Nat → Int32) (f_disc : Int32) (f_turns : Int32) (f_num : Nat → Int32) (f_least : Nat → Int32) (f_tab : Nat → Int32) (y_size : Int32) (y_many : Int32) (y_by : Int32) (r_ties : Int32) (r_six : Nat → Int32) (r_rows : Nat → Int32) (r_box : Nat → Int32) (r_worth : Nat → Int32) (r_image : Nat → Int32) (r_best : Nat → Int32) (r_bestRows : Nat → Int32) (p0 : Int32) (p1 : Int32) (p2 : Int32) (p3 : Int32) (p4 : Int32) (p5 : Int32) (ro : Int32) (o_held : Int32) (o_given : Nat → Int32) (o_f_disc : Int32) (o_f_turns : Int32) (o_f_num : Nat → Int32) (o_f_least : Nat → Int32) (o_f_tab : Nat → Int32) (o_y_by : Int32) (o_r_ties : Int32) (o_r_six : Nat → Int32) (o_r_rows : Nat → Int32) (o_r_worth : Nat → Int32) (o_r_image : Nat → Int32) (o_r_best : Nat → Int32) (o_r_bestRows : Nat → Int32) (hfo : okI held 12 → fr held.toNatClampNeg = some fo) (hF : fX6_form fu held given f_disc f_turns f_num f_least f_tab y_by r_ties r_six r_rows r_box r_worth r_image r_best r_bestRows p0 p1 p2 p3 p4 p5 = some (ro, o_held, o_given, o_f_disc, o_f_turns, o_f_num, o_f_least, o_f_tab, o_y_by, o_r_ties, o_r_six, o_r_rows, o_r_worth, o_r_image, o_r_best, o_r_bestRows)) : Met l yX6_form vX6_form rmX6_form (va_Pc [.ref h, .int p0, .int p1, .int p2, .int p3, .int p4, .int p5] (mPk (dC, dI) vwCl (foW cI cF h a fo ga ya ra held p_ fr given f_disc f_turns f_num f_least f_tab y_size y_many y_by r_ties r_six r_rows r_box r_worth r_image r_best r_bestRows) [(cI, .int), (cF, .object "KinForms$Form")] sz)) (va_Qi (fun x (_ : Unit) => x = ro) (mPo (dC, dI) vwCl (foW cI cF h a fo ga ya ra o_held p_ fr o_given o_f_disc o_f_turns o_f_num o_f_least o_f_tab y_size y_many o_y_by o_r_ties o_r_six o_r_rows r_box o_r_worth o_r_image o_r_best o_r_bestRows) [(cI, .int), (cF, .object "KinForms$Form")] (va_A (foW cI cF h a fo ga ya ra held p_ fr given f_disc f_turns f_num f_least f_tab y_size y_many y_by r_ties r_six r_rows r_box r_worth r_image r_best r_bestRows) sz)) (va_A (foW cI cF h a fo ga ya ra held p_ fr given f_disc f_turns f_num f_least f_tab y_size y_many y_by r_ties r_six r_rows r_box r_worth r_image r_best r_bestRows) sz)) 0 0 (va_A (foW cI cF h a fo ga ya ra held p_ fr given f_disc f_turns f_num f_least f_tab y_size y_many y_by r_ties r_six r_rows r_box r_worth r_image r_best r_bestRows) sz) := by
  refine Met.ofW (cc := cX6_form) (maxL := 7) (ret := (some .int)) (by decide) rfl ?_
  intro p e s m args below meth c s₁ B hml hv
  obtain ⟨rfl, hsz, hP, hK, hD0, hN⟩ := hv
  have hx := B.exec
  have hb := B.bytes
  have hr := B.returns
  have hts := atoms_spec (ws := vX6_form) B.pre
  have hlk : ∀ w ∈ lkX6_form, w.before _ s = true := fun w h => hts w (List.mem_cons_of_mem _ (List.mem_append_left _ h))
  have hown : s.vm.findClass RX6 = some m.cls := findClass_of_methodNamed B.named
  have hlocks := B.notSynchronized
  subst hsz
  have hD := hD0.self (sz := s.heap.size)
  generalize hAe : va_A (foW cI cF h a fo ga ya ra held p_ fr given f_disc f_turns f_num f_least f_tab y_size y_many y_by r_ties r_six r_rows r_box r_worth r_image r_best r_bestRows) s.heap.size = A at hD ⊢
  have hA : ∀ q : Nat, s.heap.size ≤ q → A q := fun q h => by rw [← hAe]; exact Or.inr h
  have hS : va_S A s.heap s.heap [] := va_S.rf
  have hinX6 : ∀ w ∈ wsX60, w ∈ vX6_form := fun w h => List.mem_cons_of_mem _ (List.mem_append_right _ (List.mem_append_left _ h))
  have hf_30 := hlk (.fieldLink RX6 30 "KinForms" "given" "[I") (by decide +kernel)
  have hf_40 := hlk (.fieldLink RX6 40 "KinForms" "held" "I") (by decide +kernel)
  have hf_11 := hlk (.fieldLink RX6 11 "KinForms" "forms" "[LKinForms$Form;") (by decide +kernel)
  have hf_19 := hlk (.fieldLink RX6 19 "KinForms" "reducer" "LKinForms$Reducer;") (by decide +kernel)
  have hl := lv_entry ([.ref h, .int p0, .int p1, .int p2, .int p3, .int p4, .int p5] : List Value) (n := 7) (Nat.le_of_ble_eq_true rfl)
  rw [lg_entry_eq]
  generalize (lg_sl ([.ref h, .int p0, .int p1, .int p2, .int p3, .int p4, .int p5] : List Value) ++ List.replicate (7 - (lg_sl ([.ref h, .int p0, .int p1, .int p2, .int p3, .int p4, .int p5] : List Value)).length) Slot.unset).toArray = ls at hl ⊢
  have hl : lv_has ls 7 [(0, .ref h), (1, .int p0), (2, .int p1), (3, .int p2), (4, .int p3), (5, .int p4), (6, .int p5)] := hl
  unfold fX6_form at hF
  refine W_Q (fun Q hQ => ?_)
  have hP : va_P (dC, dI) vwCl (foW cI cF h a fo ga ya ra held p_ fr given f_disc f_turns f_num f_least f_tab y_size y_many y_by r_ties r_six r_rows r_box r_worth r_image r_best r_bestRows) s.heap := hP
  refine W_HL (fun H locs eH eL => ?_)
  rw [← eH] at hP
  have hS : va_S A s.heap H locs := by rw [eH, eL]; exact hS
  refine lv_aload_n hx hb dX6_form_0 rfl (lv_at hl 0 rfl) ?_
  refine lv_iload_n hx hb dX6_form_1 rfl (lv_at hl 1 rfl) ?_
  refine lv_iload_n hx hb dX6_form_2 rfl (lv_at hl 2 rfl) ?_
  refine lv_iload_n hx hb dX6_form_3 rfl (lv_at hl 3 rfl) ?_
  refine lv_iload hx hb dX6_form_4 (lv_at hl 4 rfl) ?_
  refine lv_iload hx hb dX6_form_6 (lv_at hl 5 rfl) ?_
  refine lv_iload hx hb dX6_form_8 (lv_at hl 6 rfl) ?_
  obtain ⟨given_1, hc, hF⟩ := bd1_of hF
  refine sc_v (wf := (foW cI cF h a fo ga ya ra held p_ fr given_1 f_disc f_turns f_num f_least f_tab y_size y_many y_by r_ties r_six r_rows r_box r_worth r_image r_best r_bestRows)) (va_runV (As := [.int p0, .int p1, .int p2, .int p3, .int p4, .int p5]) (rest := []) ⟨hx, hb, hml, hown, hts⟩ (c_X6_give l dC dI cI h a H.size held p_ given p0 p1 p2 p3 p4 p5 given_1 hc) (cwV 6 hts g_X6_form_X6_give rfl rfl rfl (by decide +kernel) ⟨Nat.le_of_ble_eq_true rfl, Nat.le_of_ble_eq_true rfl⟩) ⟨mPk_blind, va_recv hK hP (ci := 4) (q0 := 0) rfl rfl, mPk_at (hK.sub (tys' := [(cI, .int)]) [0] rfl) (hP.sub (ws' := (kW4 cI h a held p_ given)) [0, 2] rfl) (hD.sub (ws' := (kW4 cI h a held p_ given)) [0, 2] (by decide) rfl) hN⟩ rfl rfl hl.1 rfl (lv_room (Nat.le_of_ble_eq_true rfl)) dX6_form_10 ⟨Nat.zero_le _, Nat.zero_le _⟩) hP hD hS hA [0, 2] [1, 3, 4, 5, 6, 7, 8, 9, 10, 11, 12, 13, 14, 15] rfl rfl rfl rfl rfl (by decide) (fun H locs hP hD hS => ?_)
  refine lv_aload_n hx hb dX6_form_13 rfl (lv_at hl 0 rfl) ?_
  refine va_get (D := (dC, dI)) (ci := 4) (v := .ref (a 4)) (C := RX6) (T := TX6) (N := 8) hx hb hts hinX6 hown hK hP 0 rfl rfl 3 (by decide) hf_30 (fun _ h9 => h9) rfl dX6_form_14 ?_
  obtain ⟨r_2, hc, hF⟩ := bd1_of hF
  refine rc_i (va_runSN (As := [.ref (a 4)]) (rest := []) ⟨hx, hb, hml, hown, hts⟩ (c_X4_isForm l dC dI cI (a 4) fu given_1  r_2 hc) ⟨va_cnB 1 hts g_X6_form_X4_isForm rfl rfl rfl (hN.2 (RX6, 51, yX4_isForm, "KinForms") (by decide +kernel)) (hlk (.initialized RX4) (by decide +kernel)) (by decide +kernel) ⟨Nat.le_of_ble_eq_true rfl, Nat.le_of_ble_eq_true rfl⟩, hlk (.static yX4_isForm) (by decide +kernel), trivial⟩ ⟨rPk_blind, rPk_at (hK.sub (tys' := [(cI, .int)]) [0] rfl) (hP.sub (ws' := (sW1 cI (a 4) given_1)) [2] rfl) hN⟩ rfl rfl hl.1 rfl (lv_room (Nat.le_of_ble_eq_true rfl)) dX6_form_17 ⟨Nat.zero_le _, Nat.zero_le _⟩) ?_
  refine lv_if_ne (tgt := 26) hx hb dX6_form_20 (by decide) (fun c0 => ?_) (fun c0 => ?_)
  · have hF := if_f hF c0
    refine lv_aload_n hx hb dX6_form_26 rfl (lv_at hl 0 rfl) ?_
    refine va_get (D := (dC, dI)) (ci := 4) (v := .int held) (C := RX6) (T := TX6) (N := 8) hx hb hts hinX6 hown hK hP 0 rfl rfl 6 (by decide) hf_40 (fun _ h9 => h9) rfl dX6_form_27 ?_
    refine lv_bipush (v := (12)) hx hb dX6_form_30 (by decide) ?_
    refine lv_icmp_lt (tgt := 38) hx hb dX6_form_32 (by decide) (fun c0 => ?_) (fun c0 => ?_)
    · have hF := if_t hF c0
      refine lv_aload_n hx hb dX6_form_38 rfl (lv_at hl 0 rfl) ?_
      refine va_get (D := (dC, dI)) (ci := 4) (v := .ref (a 1)) (C := RX6) (T := TX6) (N := 8) hx hb hts hinX6 hown hK hP 0 rfl rfl 0 (by decide) hf_11 (fun _ h9 => h9) rfl dX6_form_39 ?_
      refine lv_aload_n hx hb dX6_form_42 rfl (lv_at hl 0 rfl) ?_
      refine va_get (D := (dC, dI)) (ci := 4) (v := .int held) (C := RX6) (T := TX6) (N := 8) hx hb hts hinX6 hown hK hP 0 rfl rfl 6 (by decide) hf_40 (fun _ h9 => h9) rfl dX6_form_43 ?_
      obtain ⟨hg_3, hF⟩ := ck_of hF
      refine kc_aald (y := fo) hx hb hK hP 1 1 rfl rfl (hfo hg_3) hg_3 dX6_form_46 ?_
      refine lv_aload_n hx hb dX6_form_47 rfl (lv_at hl 0 rfl) ?_
      refine va_get (D := (dC, dI)) (ci := 4) (v := .ref (a 4)) (C := RX6) (T := TX6) (N := 8) hx hb hts hinX6 hown hK hP 0 rfl rfl 3 (by decide) hf_30 (fun _ h9 => h9) rfl dX6_form_48 ?_
      refine lv_aload_n hx hb dX6_form_51 rfl (lv_at hl 0 rfl) ?_
      refine va_get (D := (dC, dI)) (ci := 4) (v := .ref (a 2)) (C := RX6) (T := TX6) (N := 8) hx hb hts hinX6 hown hK hP 0 rfl rfl 1 (by decide) hf_19 (fun _ h9 => h9) rfl dX6_form_52 ?_
      obtain ⟨f_disc_4, f_turns_5, f_num_6, f_least_7, f_tab_8, y_by_9, r_ties_10, r_six_11, r_rows_12, r_worth_13, r_image_14, r_best_15, r_bestRows_16, hc, hF⟩ := bd13_of hF
      refine sc_v (wf := (foW cI cF h a fo ga ya ra held p_ fr given_1 f_disc_4 f_turns_5 f_num_6 f_least_7 f_tab_8 y_size y_many y_by_9 r_ties_10 r_six_11 r_rows_12 r_box r_worth_13 r_image_14 r_best_15 r_bestRows_16)) (va_runVN (As := [.ref (a 4), .ref (a 2)]) (rest := []) ⟨hx, hb, hml, hown, hts⟩ (c_X1_become l dC dI cI fo ga ya (a 4) (a 2) ra fu H.size f_disc f_turns f_num f_least f_tab y_size y_many y_by given_1 r_ties r_six r_rows r_box r_worth r_image r_best r_bestRows  f_disc_4 f_turns_5 f_num_6 f_least_7 f_tab_8 y_by_9 r_ties_10 r_six_11 r_rows_12 r_worth_13 r_image_14 r_best_15 r_bestRows_16 hc) ⟨va_cnB 2 hts g_X6_form_X1_become rfl rfl rfl (hN.2 (RX6, 59, yX1_become, "KinForms") (by decide +kernel)) (hlk (.initialized RX1) (by decide +kernel)) (by decide +kernel) ⟨Nat.le_of_ble_eq_true rfl, Nat.le_of_ble_eq_true rfl⟩, hlk (.instanceMethod yX1_become) (by decide +kernel), hlk (.selects RX1 yX1_become yX1_become) (by decide +kernel)⟩ ⟨mPk_blind, va_recv hK hP (ci := 1) (q0 := 3) rfl rfl, mPk_at (hK.sub (tys' := [(cI, .int)]) [0] rfl) (hP.sub (ws' := (becW cI fo ga ya (a 4) (a 2) ra f_disc f_turns f_num f_least f_tab y_size y_many y_by given_1 r_ties r_six r_rows r_box r_worth r_image r_best r_bestRows)) [3, 4, 5, 6, 7, 2, 8, 9, 10, 11, 12, 13, 14, 15] rfl) (hD.sub (ws' := (becW cI fo ga ya (a 4) (a 2) ra f_disc f_turns f_num f_least f_tab y_size y_many y_by given_1 r_ties r_six r_rows r_box r_worth r_image r_best r_bestRows)) [3, 4, 5, 6, 7, 2, 8, 9, 10, 11, 12, 13, 14, 15] (by decide) rfl) hN⟩ rfl rfl hl.1 rfl (lv_room (Nat.le_of_ble_eq_true rfl)) dX6_form_55 ⟨Nat.zero_le _, Nat.zero_le _⟩) hP hD hS hA [3, 4, 5, 6, 7, 2, 8, 9, 10, 11, 12, 13, 14, 15] [0, 1] rfl rfl rfl rfl rfl (by decide) (fun H locs hP hD hS => ?_)
      refine lv_aload_n hx hb dX6_form_58 rfl (lv_at hl 0 rfl) ?_
      refine lv_dup hx hb dX6_form_59 rfl ?_
      refine va_get (D := (dC, dI)) (ci := 4) (v := .int held) (C := RX6) (T := TX6) (N := 8) hx hb hts hinX6 hown hK hP 0 rfl rfl 6 (by decide) hf_40 (fun _ h9 => h9) rfl dX6_form_60 ?_
      refine lv_iconst (v := 1) hx hb dX6_form_63 (by decide) ?_
      refine lv_iadd hx hb dX6_form_64 ?_
      refine lv_topi (fun held_17 e_held_17 => ?_)
      have hF := nm_at hF e_held_17
      refine va_put (D := (dC, dI)) (ci := 4) (v := .int held_17) (ty := .int) (C := RX6) (T := TX6) (N := 8) hx hb hts hinX6 tyX6 tyX6_ok nmX6 hown hK hP hD hS 0 rfl rfl 6 (by decide) hf_40 (fun _ h9 => h9) rfl (by decide +kernel) rfl rfl (Nat.le_of_ble_eq_true rfl) dX6_form_65 (fun H locs hP hD hS => ?_)
      have hP : va_P (dC, dI) vwCl (foW cI cF h a fo ga ya ra held_17 p_ fr given_1 f_disc_4 f_turns_5 f_num_6 f_least_7 f_tab_8 y_size y_many y_by_9 r_ties_10 r_six_11 r_rows_12 r_box r_worth_13 r_image_14 r_best_15 r_bestRows_16) H := hP
      have hD : va_D A (foW cI cF h a fo ga ya ra held_17 p_ fr given_1 f_disc_4 f_turns_5 f_num_6 f_least_7 f_tab_8 y_size y_many y_by_9 r_ties_10 r_six_11 r_rows_12 r_box r_worth_13 r_image_14 r_best_15 r_bestRows_16) := hD
      refine lv_aload_n hx hb dX6_form_68 rfl (lv_at hl 0 rfl) ?_
      refine va_get (D := (dC, dI)) (ci := 4) (v := .int held_17) (C := RX6) (T := TX6) (N := 8) hx hb hts hinX6 hown hK hP 0 rfl rfl 6 (by decide) hf_40 (fun _ h9 => h9) rfl dX6_form_69 ?_
      refine lv_iconst (v := 1) hx hb dX6_form_72 (by decide) ?_
      refine lv_isub hx hb dX6_form_73 ?_
      refine lv_topi (fun v_18 e_v_18 => ?_)
      have hF := nm_at hF e_v_18
      obtain ⟨q0, q1, q2, q3, q4, q5, q6, q7, q8, q9, q10, q11, q12, q13, q14, q15⟩ := sm16 hF
      have hP : va_P (dC, dI) vwCl (foW cI cF h a fo ga ya ra o_held p_ fr o_given o_f_disc o_f_turns o_f_num o_f_least o_f_tab y_size y_many o_y_by o_r_ties o_r_six o_r_rows r_box o_r_worth o_r_image o_r_best o_r_bestRows) H := by rw [← q1, ← q2, ← q3, ← q4, ← q5, ← q6, ← q7, ← q8, ← q9, ← q10, ← q11, ← q12, ← q13, ← q14, ← q15]; exact hP
      have hD : va_D A (foW cI cF h a fo ga ya ra o_held p_ fr o_given o_f_disc o_f_turns o_f_num o_f_least o_f_tab y_size y_many o_y_by o_r_ties o_r_six o_r_rows r_box o_r_worth o_r_image o_r_best o_r_bestRows) := by rw [← q1, ← q2, ← q3, ← q4, ← q5, ← q6, ← q7, ← q8, ← q9, ← q10, ← q11, ← q12, ← q13, ← q14, ← q15]; exact hD
      refine W_Qe hQ ?_
      exact W.iret hx hb hr (fun t ht hW => ⟨⟨v_18, (), rfl, q0, by rw [ht]; exact hP, va_K.moved hW.alike hK, hD⟩, hS.F ht⟩) hS.2.2 dX6_form_74
    · have hF := if_f hF c0
      refine lv_ldc (v := (-100004)) hx hb hown (hlk (.constant RX6 58 (-100004)) (by decide +kernel)) dX6_form_35 ?_
      obtain ⟨q0, q1, q2, q3, q4, q5, q6, q7, q8, q9, q10, q11, q12, q13, q14, q15⟩ := sm16 hF
      have hP : va_P (dC, dI) vwCl (foW cI cF h a fo ga ya ra o_held p_ fr o_given o_f_disc o_f_turns o_f_num o_f_least o_f_tab y_size y_many o_y_by o_r_ties o_r_six o_r_rows r_box o_r_worth o_r_image o_r_best o_r_bestRows) H := by rw [← q1, ← q2, ← q3, ← q4, ← q5, ← q6, ← q7, ← q8, ← q9, ← q10, ← q11, ← q12, ← q13, ← q14, ← q15]; exact hP
      have hD : va_D A (foW cI cF h a fo ga ya ra o_held p_ fr o_given o_f_disc o_f_turns o_f_num o_f_least o_f_tab y_size y_many o_y_by o_r_ties o_r_six o_r_rows r_box o_r_worth o_r_image o_r_best o_r_bestRows) := by rw [← q1, ← q2, ← q3, ← q4, ← q5, ← q6, ← q7, ← q8, ← q9, ← q10, ← q11, ← q12, ← q13, ← q14, ← q15]; exact hD
      refine W_Qe hQ ?_
      exact W.iret hx hb hr (fun t ht hW => ⟨⟨(-100004 : Int32), (), rfl, q0, by rw [ht]; exact hP, va_K.moved hW.alike hK, hD⟩, hS.F ht⟩) hS.2.2 dX6_form_37
  · have hF := if_t hF c0
    refine lv_ldc (v := (-100002)) hx hb hown (hlk (.constant RX6 57 (-100002)) (by decide +kernel)) dX6_form_23 ?_
    obtain ⟨q0, q1, q2, q3, q4, q5, q6, q7, q8, q9, q10, q11, q12, q13, q14, q15⟩ := sm16 hF
    have hP : va_P (dC, dI) vwCl (foW cI cF h a fo ga ya ra o_held p_ fr o_given o_f_disc o_f_turns o_f_num o_f_least o_f_tab y_size y_many o_y_by o_r_ties o_r_six o_r_rows r_box o_r_worth o_r_image o_r_best o_r_bestRows) H := by rw [← q1, ← q2, ← q3, ← q4, ← q5, ← q6, ← q7, ← q8, ← q9, ← q10, ← q11, ← q12, ← q13, ← q14, ← q15]; exact hP
    have hD : va_D A (foW cI cF h a fo ga ya ra o_held p_ fr o_given o_f_disc o_f_turns o_f_num o_f_least o_f_tab y_size y_many o_y_by o_r_ties o_r_six o_r_rows r_box o_r_worth o_r_image o_r_best o_r_bestRows) := by rw [← q1, ← q2, ← q3, ← q4, ← q5, ← q6, ← q7, ← q8, ← q9, ← q10, ← q11, ← q12, ← q13, ← q14, ← q15]; exact hD
    refine W_Qe hQ ?_
    exact W.iret hx hb hr (fun t ht hW => ⟨⟨(-100002 : Int32), (), rfl, q0, by rw [ht]; exact hP, va_K.moved hW.alike hK, hD⟩, hS.F ht⟩) hS.2.2 dX6_form_25
def fX6_set (fu : Nat) (held : Int32) (given : Nat → Int32) (f_disc : Int32) (f_turns : Int32) (f_num : Nat → Int32) (f_least : Nat → Int32) (f_tab : Nat → Int32) (y_by : Int32) (r_ties : Int32) (r_six : Nat → Int32) (r_rows : Nat → Int32) (r_box : Nat → Int32) (r_worth : Nat → Int32) (r_image : Nat → Int32) (r_best : Nat → Int32) (r_bestRows : Nat → Int32) (p0 : Int32) (p1 : Int32) (p2 : Int32) (p3 : Int32) (p4 : Int32) (p5 : Int32) (p6 : Int32) : Option (Int32 × (Nat → Int32) × (Int32) × (Int32) × (Nat → Int32) × (Nat → Int32) × (Nat → Int32) × (Int32) × (Int32) × (Nat → Int32) × (Nat → Int32) × (Nat → Int32) × (Nat → Int32) × (Nat → Int32) × (Nat → Int32)) :=
  bd1 (fX6_isUnknown held p0) (fun (r_1 : Int32) => if r_1 = 0 then (bd1 (fX6_give given p1 p2 p3 p4 p5 p6) (fun (given_2 : Nat → Int32) => bd1 (fX4_isForm fu given_2) (fun (r_3 : Int32) => if r_3 = 0 then (some ((-100002 : Int32), given_2, f_disc, f_turns, f_num, f_least, f_tab, y_by, r_ties, r_six, r_rows, r_worth, r_image, r_best, r_bestRows)) else (if okI p0 12 then bd13 (fX1_become fu f_num f_least f_tab given_2 r_six r_rows r_box r_worth r_image r_best r_bestRows) (fun (f_disc_5 : Int32) (f_turns_6 : Int32) (f_num_7 : Nat → Int32) (f_least_8 : Nat → Int32) (f_tab_9 : Nat → Int32) (y_by_10 : Int32) (r_ties_11 : Int32) (r_six_12 : Nat → Int32) (r_rows_13 : Nat → Int32) (r_worth_14 : Nat → Int32) (r_image_15 : Nat → Int32) (r_best_16 : Nat → Int32) (r_bestRows_17 : Nat → Int32) => some ((1 : Int32), given_2, f_disc_5, f_turns_6, f_num_7, f_least_8, f_tab_9, y_by_10, r_ties_11, r_six_12, r_rows_13, r_worth_14, r_image_15, r_best_16, r_bestRows_17)) else none)))) else (some ((-100001 : Int32), given, f_disc, f_turns, f_num, f_least, f_tab, y_by, r_ties, r_six, r_rows, r_worth, r_image, r_best, r_bestRows)))
def lkX6_set : List Cond := [.initialized RX4, .static yX4_isForm, .initialized RX1, .instanceMethod yX1_become, .selects RX1 yX1_become yX1_become, .constant RX6 57 (-100002), .constant RX6 67 (-100001), .fieldLink RX6 30 "KinForms" "given" "[I", .fieldLink RX6 11 "KinForms" "forms" "[LKinForms$Form;", .fieldLink RX6 19 "KinForms" "reducer" "LKinForms$Reducer;"]
def vX6_set : List Cond := .code yX6_set cX6_set 8 (some .int) :: (lkX6_set ++ (wsX60 ++ (wsV RX6 63 RX6 yX6_isUnknown vX6_isUnknown ++ (wsV RX6 47 RX6 yX6_give vX6_give ++ (vX4_isForm ++ (vX1_become ++ ([])))))))
theorem q_X6_set : ∀ w ∈ vX6_set, goodWord w = true := gd_cons rfl (gd_app (by decide +kernel) (gd_app q_wsX60 (gd_app (gd_V q_X6_isUnknown) (gd_app (gd_V q_X6_give) (gd_app q_X4_isForm (gd_app q_X1_become gd_nil))))))
theorem g_X6_set_X6_isUnknown : GoodIn vX6_set (wsV RX6 63 RX6 yX6_isUnknown vX6_isUnknown) := gi_of (fun w h => List.mem_cons_of_mem _ (List.mem_append_right _ (List.mem_append_right _ (List.mem_append_left _ h)))) (gd_V q_X6_isUnknown)
theorem g_X6_set_X6_give : GoodIn vX6_set (wsV RX6 47 RX6 yX6_give vX6_give) := gi_of (fun w h => List.mem_cons_of_mem _ (List.mem_append_right _ (List.mem_append_right _ (List.mem_append_right _ (List.mem_append_left _ h))))) (gd_V q_X6_give)
theorem g_X6_set_X4_isForm : GoodIn vX6_set (vX4_isForm) := gi_of (fun w h => List.mem_cons_of_mem _ (List.mem_append_right _ (List.mem_append_right _ (List.mem_append_right _ (List.mem_append_right _ (List.mem_append_left _ h)))))) q_X4_isForm
theorem g_X6_set_X1_become : GoodIn vX6_set (vX1_become) := gi_of (fun w h => List.mem_cons_of_mem _ (List.mem_append_right _ (List.mem_append_right _ (List.mem_append_right _ (List.mem_append_right _ (List.mem_append_right _ (List.mem_append_left _ h))))))) q_X1_become
abbrev rmX6_set : Room := { frames := 6, cells := 0, slots := 0, locals := 139 }
set_option maxHeartbeats 4000000 in
set_option maxRecDepth 100000 in
theorem c_X6_set (l : Launch) (dC : Nat → ClassId) (dI : Nat → Nat → Nat) (cI : ClassId) (cF : ClassId) (h : Nat) (a : Nat → Nat) (fo : Nat) (ga : Nat → Nat) (ya : Nat → Nat) (ra : Nat → Nat) (fu : Nat) (sz : Nat) (held : Int32) (p_ : Int32) (fr : Nat → Option Nat) (given : Nat → Int32) (f_disc : Int32) (f_turns : Int32) (f_num : Nat → Int32) (f_least : Nat → Int32) (f_tab : Nat → Int32) (y_size : Int32) (y_many : Int32) (y_by : Int32) (r_ties : Int32) (r_six : Nat → Int32) (r_rows : Nat → Int32) (r_box : Nat → Int32) (r_worth : Nat → Int32) (r_image : Nat → Int32) (r_best : Nat → Int32) (r_bestRows : Nat → Int32) (p0 : Int32) (p1 : Int32) (p2 : Int32) (p3 : Int32) (p4 : Int32) (p5 : Int32) (p6 : Int32) (ro : Int32) (o_given : Nat → Int32) (o_f_disc : Int32) (o_f_turns : Int32) (o_f_num : Nat → Int32) (o_f_least : Nat → Int32) (o_f_tab : Nat → Int32) (o_y_by : Int32) (o_r_ties : Int32) (o_r_six : Nat → Int32) (o_r_rows : Nat → Int32) (o_r_worth : Nat → Int32) (o_r_image : Nat → Int32) (o_r_best : Nat → Int32) (o_r_bestRows : Nat → Int32) (hfo : okI p0 12 → fr p0.toNatClampNeg = some fo) (hF : fX6_set fu held given f_disc f_turns f_num f_least f_tab y_by r_ties r_six r_rows r_box r_worth r_image r_best r_bestRows p0 p1 p2 p3 p4 p5 p6 = some (ro, o_given, o_f_disc, o_f_turns, o_f_num, o_f_least, o_f_tab, o_y_by, o_r_ties, o_r_six, o_r_rows, o_r_worth, o_r_image, o_r_best, o_r_bestRows)) : Met l yX6_set vX6_set rmX6_set (va_Pc [.ref h, .int p0, .int p1, .int p2, .int p3, .int p4, .int p5, .int p6] (mPk (dC, dI) vwCl (seW cI cF h a fo ga ya ra held p_ fr given f_disc f_turns f_num f_least f_tab y_size y_many y_by r_ties r_six r_rows r_box r_worth r_image r_best r_bestRows) [(cI, .int), (cF, .object "KinForms$Form")] sz)) (va_Qi (fun x (_ : Unit) => x = ro) (mPo (dC, dI) vwCl (seW cI cF h a fo ga ya ra held p_ fr o_given o_f_disc o_f_turns o_f_num o_f_least o_f_tab y_size y_many o_y_by o_r_ties o_r_six o_r_rows r_box o_r_worth o_r_image o_r_best o_r_bestRows) [(cI, .int), (cF, .object "KinForms$Form")] (va_A (seW cI cF h a fo ga ya ra held p_ fr given f_disc f_turns f_num f_least f_tab y_size y_many y_by r_ties r_six r_rows r_box r_worth r_image r_best r_bestRows) sz)) (va_A (seW cI cF h a fo ga ya ra held p_ fr given f_disc f_turns f_num f_least f_tab y_size y_many y_by r_ties r_six r_rows r_box r_worth r_image r_best r_bestRows) sz)) 0 0 (va_A (seW cI cF h a fo ga ya ra held p_ fr given f_disc f_turns f_num f_least f_tab y_size y_many y_by r_ties r_six r_rows r_box r_worth r_image r_best r_bestRows) sz) := by
  refine Met.ofW (cc := cX6_set) (maxL := 8) (ret := (some .int)) (by decide) rfl ?_
  intro p e s m args below meth c s₁ B hml hv
  obtain ⟨rfl, hsz, hP, hK, hD0, hN⟩ := hv
  have hx := B.exec
  have hb := B.bytes
  have hr := B.returns
  have hts := atoms_spec (ws := vX6_set) B.pre
  have hlk : ∀ w ∈ lkX6_set, w.before _ s = true := fun w h => hts w (List.mem_cons_of_mem _ (List.mem_append_left _ h))
  have hown : s.vm.findClass RX6 = some m.cls := findClass_of_methodNamed B.named
  have hlocks := B.notSynchronized
  subst hsz
  have hD := hD0.self (sz := s.heap.size)
  generalize hAe : va_A (seW cI cF h a fo ga ya ra held p_ fr given f_disc f_turns f_num f_least f_tab y_size y_many y_by r_ties r_six r_rows r_box r_worth r_image r_best r_bestRows) s.heap.size = A at hD ⊢
  have hA : ∀ q : Nat, s.heap.size ≤ q → A q := fun q h => by rw [← hAe]; exact Or.inr h
  have hS : va_S A s.heap s.heap [] := va_S.rf
  have hinX6 : ∀ w ∈ wsX60, w ∈ vX6_set := fun w h => List.mem_cons_of_mem _ (List.mem_append_right _ (List.mem_append_left _ h))
  have hf_30 := hlk (.fieldLink RX6 30 "KinForms" "given" "[I") (by decide +kernel)
  have hf_11 := hlk (.fieldLink RX6 11 "KinForms" "forms" "[LKinForms$Form;") (by decide +kernel)
  have hf_19 := hlk (.fieldLink RX6 19 "KinForms" "reducer" "LKinForms$Reducer;") (by decide +kernel)
  have hl := lv_entry ([.ref h, .int p0, .int p1, .int p2, .int p3, .int p4, .int p5, .int p6] : List Value) (n := 8) (Nat.le_of_ble_eq_true rfl)
  rw [lg_entry_eq]
  generalize (lg_sl ([.ref h, .int p0, .int p1, .int p2, .int p3, .int p4, .int p5, .int p6] : List Value) ++ List.replicate (8 - (lg_sl ([.ref h, .int p0, .int p1, .int p2, .int p3, .int p4, .int p5, .int p6] : List Value)).length) Slot.unset).toArray = ls at hl ⊢
  have hl : lv_has ls 8 [(0, .ref h), (1, .int p0), (2, .int p1), (3, .int p2), (4, .int p3), (5, .int p4), (6, .int p5), (7, .int p6)] := hl
  unfold fX6_set at hF
  refine W_Q (fun Q hQ => ?_)
  have hP : va_P (dC, dI) vwCl (seW cI cF h a fo ga ya ra held p_ fr given f_disc f_turns f_num f_least f_tab y_size y_many y_by r_ties r_six r_rows r_box r_worth r_image r_best r_bestRows) s.heap := hP
  refine W_HL (fun H locs eH eL => ?_)
  rw [← eH] at hP
  have hS : va_S A s.heap H locs := by rw [eH, eL]; exact hS
  refine lv_aload_n hx hb dX6_set_0 rfl (lv_at hl 0 rfl) ?_
  refine lv_iload_n hx hb dX6_set_1 rfl (lv_at hl 1 rfl) ?_
  obtain ⟨r_1, hc, hF⟩ := bd1_of hF
  refine rc_i (va_runV (As := [.int p0]) (rest := []) ⟨hx, hb, hml, hown, hts⟩ (c_X6_isUnknown l dC dI cI h a held p_ p0 r_1 hc) (cwV 1 hts g_X6_set_X6_isUnknown rfl rfl rfl (by decide +kernel) ⟨Nat.le_of_ble_eq_true rfl, Nat.le_of_ble_eq_true rfl⟩) ⟨rPk_blind, va_recv hK hP (ci := 4) (q0 := 0) rfl rfl, rPk_at (hK.sub (tys' := [(cI, .int)]) [0] rfl) (hP.sub (ws' := (kW0 cI h a held p_)) [0] rfl) hN⟩ rfl rfl hl.1 rfl (lv_room (Nat.le_of_ble_eq_true rfl)) dX6_set_2 ⟨Nat.zero_le _, Nat.zero_le _⟩) ?_
  refine lv_if_eq (tgt := 11) hx hb dX6_set_5 (by decide) (fun c0 => ?_) (fun c0 => ?_)
  · have hF := if_t hF c0
    refine lv_aload_n hx hb dX6_set_11 rfl (lv_at hl 0 rfl) ?_
    refine lv_iload_n hx hb dX6_set_12 rfl (lv_at hl 2 rfl) ?_
    refine lv_iload_n hx hb dX6_set_13 rfl (lv_at hl 3 rfl) ?_
    refine lv_iload hx hb dX6_set_14 (lv_at hl 4 rfl) ?_
    refine lv_iload hx hb dX6_set_16 (lv_at hl 5 rfl) ?_
    refine lv_iload hx hb dX6_set_18 (lv_at hl 6 rfl) ?_
    refine lv_iload hx hb dX6_set_20 (lv_at hl 7 rfl) ?_
    obtain ⟨given_2, hc, hF⟩ := bd1_of hF
    refine sc_v (wf := (seW cI cF h a fo ga ya ra held p_ fr given_2 f_disc f_turns f_num f_least f_tab y_size y_many y_by r_ties r_six r_rows r_box r_worth r_image r_best r_bestRows)) (va_runV (As := [.int p1, .int p2, .int p3, .int p4, .int p5, .int p6]) (rest := []) ⟨hx, hb, hml, hown, hts⟩ (c_X6_give l dC dI cI h a H.size held p_ given p1 p2 p3 p4 p5 p6 given_2 hc) (cwV 6 hts g_X6_set_X6_give rfl rfl rfl (by decide +kernel) ⟨Nat.le_of_ble_eq_true rfl, Nat.le_of_ble_eq_true rfl⟩) ⟨mPk_blind, va_recv hK hP (ci := 4) (q0 := 0) rfl rfl, mPk_at (hK.sub (tys' := [(cI, .int)]) [0] rfl) (hP.sub (ws' := (kW4 cI h a held p_ given)) [0, 2] rfl) (hD.sub (ws' := (kW4 cI h a held p_ given)) [0, 2] (by decide) rfl) hN⟩ rfl rfl hl.1 rfl (lv_room (Nat.le_of_ble_eq_true rfl)) dX6_set_22 ⟨Nat.zero_le _, Nat.zero_le _⟩) hP hD hS hA [0, 2] [1, 3, 4, 5, 6, 7, 8, 9, 10, 11, 12, 13, 14, 15] rfl rfl rfl rfl rfl (by decide) (fun H locs hP hD hS => ?_)
    refine lv_aload_n hx hb dX6_set_25 rfl (lv_at hl 0 rfl) ?_
    refine va_get (D := (dC, dI)) (ci := 4) (v := .ref (a 4)) (C := RX6) (T := TX6) (N := 8) hx hb hts hinX6 hown hK hP 0 rfl rfl 3 (by decide) hf_30 (fun _ h9 => h9) rfl dX6_set_26 ?_
    obtain ⟨r_3, hc, hF⟩ := bd1_of hF
    refine rc_i (va_runSN (As := [.ref (a 4)]) (rest := []) ⟨hx, hb, hml, hown, hts⟩ (c_X4_isForm l dC dI cI (a 4) fu given_2  r_3 hc) ⟨va_cnB 1 hts g_X6_set_X4_isForm rfl rfl rfl (hN.2 (RX6, 51, yX4_isForm, "KinForms") (by decide +kernel)) (hlk (.initialized RX4) (by decide +kernel)) (by decide +kernel) ⟨Nat.le_of_ble_eq_true rfl, Nat.le_of_ble_eq_true rfl⟩, hlk (.static yX4_isForm) (by decide +kernel), trivial⟩ ⟨rPk_blind, rPk_at (hK.sub (tys' := [(cI, .int)]) [0] rfl) (hP.sub (ws' := (sW1 cI (a 4) given_2)) [2] rfl) hN⟩ rfl rfl hl.1 rfl (lv_room (Nat.le_of_ble_eq_true rfl)) dX6_set_29 ⟨Nat.zero_le _, Nat.zero_le _⟩) ?_
    refine lv_if_ne (tgt := 38) hx hb dX6_set_32 (by decide) (fun c0 => ?_) (fun c0 => ?_)
    · have hF := if_f hF c0
      refine lv_aload_n hx hb dX6_set_38 rfl (lv_at hl 0 rfl) ?_
      refine va_get (D := (dC, dI)) (ci := 4) (v := .ref (a 1)) (C := RX6) (T := TX6) (N := 8) hx hb hts hinX6 hown hK hP 0 rfl rfl 0 (by decide) hf_11 (fun _ h9 => h9) rfl dX6_set_39 ?_
      refine lv_iload_n hx hb dX6_set_42 rfl (lv_at hl 1 rfl) ?_
      obtain ⟨hg_4, hF⟩ := ck_of hF
      refine kc_aald (y := fo) hx hb hK hP 1 1 rfl rfl (hfo hg_4) hg_4 dX6_set_43 ?_
      refine lv_aload_n hx hb dX6_set_44 rfl (lv_at hl 0 rfl) ?_
      refine va_get (D := (dC, dI)) (ci := 4) (v := .ref (a 4)) (C := RX6) (T := TX6) (N := 8) hx hb hts hinX6 hown hK hP 0 rfl rfl 3 (by decide) hf_30 (fun _ h9 => h9) rfl dX6_set_45 ?_
      refine lv_aload_n hx hb dX6_set_48 rfl (lv_at hl 0 rfl) ?_
      refine va_get (D := (dC, dI)) (ci := 4) (v := .ref (a 2)) (C := RX6) (T := TX6) (N := 8) hx hb hts hinX6 hown hK hP 0 rfl rfl 1 (by decide) hf_19 (fun _ h9 => h9) rfl dX6_set_49 ?_
      obtain ⟨f_disc_5, f_turns_6, f_num_7, f_least_8, f_tab_9, y_by_10, r_ties_11, r_six_12, r_rows_13, r_worth_14, r_image_15, r_best_16, r_bestRows_17, hc, hF⟩ := bd13_of hF
      refine sc_v (wf := (seW cI cF h a fo ga ya ra held p_ fr given_2 f_disc_5 f_turns_6 f_num_7 f_least_8 f_tab_9 y_size y_many y_by_10 r_ties_11 r_six_12 r_rows_13 r_box r_worth_14 r_image_15 r_best_16 r_bestRows_17)) (va_runVN (As := [.ref (a 4), .ref (a 2)]) (rest := []) ⟨hx, hb, hml, hown, hts⟩ (c_X1_become l dC dI cI fo ga ya (a 4) (a 2) ra fu H.size f_disc f_turns f_num f_least f_tab y_size y_many y_by given_2 r_ties r_six r_rows r_box r_worth r_image r_best r_bestRows  f_disc_5 f_turns_6 f_num_7 f_least_8 f_tab_9 y_by_10 r_ties_11 r_six_12 r_rows_13 r_worth_14 r_image_15 r_best_16 r_bestRows_17 hc) ⟨va_cnB 2 hts g_X6_set_X1_become rfl rfl rfl (hN.2 (RX6, 59, yX1_become, "KinForms") (by decide +kernel)) (hlk (.initialized RX1) (by decide +kernel)) (by decide +kernel) ⟨Nat.le_of_ble_eq_true rfl, Nat.le_of_ble_eq_true rfl⟩, hlk (.instanceMethod yX1_become) (by decide +kernel), hlk (.selects RX1 yX1_become yX1_become) (by decide +kernel)⟩ ⟨mPk_blind, va_recv hK hP (ci := 1) (q0 := 3) rfl rfl, mPk_at (hK.sub (tys' := [(cI, .int)]) [0] rfl) (hP.sub (ws' := (becW cI fo ga ya (a 4) (a 2) ra f_disc f_turns f_num f_least f_tab y_size y_many y_by given_2 r_ties r_six r_rows r_box r_worth r_image r_best r_bestRows)) [3, 4, 5, 6, 7, 2, 8, 9, 10, 11, 12, 13, 14, 15] rfl) (hD.sub (ws' := (becW cI fo ga ya (a 4) (a 2) ra f_disc f_turns f_num f_least f_tab y_size y_many y_by given_2 r_ties r_six r_rows r_box r_worth r_image r_best r_bestRows)) [3, 4, 5, 6, 7, 2, 8, 9, 10, 11, 12, 13, 14, 15] (by decide) rfl) hN⟩ rfl rfl hl.1 rfl (lv_room (Nat.le_of_ble_eq_true rfl)) dX6_set_52 ⟨Nat.zero_le _, Nat.zero_le _⟩) hP hD hS hA [3, 4, 5, 6, 7, 2, 8, 9, 10, 11, 12, 13, 14, 15] [0, 1] rfl rfl rfl rfl rfl (by decide) (fun H locs hP hD hS => ?_)
      refine lv_iconst (v := 1) hx hb dX6_set_55 (by decide) ?_
      obtain ⟨q0, q1, q2, q3, q4, q5, q6, q7, q8, q9, q10, q11, q12, q13, q14⟩ := sm15 hF
      have hP : va_P (dC, dI) vwCl (seW cI cF h a fo ga ya ra held p_ fr o_given o_f_disc o_f_turns o_f_num o_f_least o_f_tab y_size y_many o_y_by o_r_ties o_r_six o_r_rows r_box o_r_worth o_r_image o_r_best o_r_bestRows) H := by rw [← q1, ← q2, ← q3, ← q4, ← q5, ← q6, ← q7, ← q8, ← q9, ← q10, ← q11, ← q12, ← q13, ← q14]; exact hP
      have hD : va_D A (seW cI cF h a fo ga ya ra held p_ fr o_given o_f_disc o_f_turns o_f_num o_f_least o_f_tab y_size y_many o_y_by o_r_ties o_r_six o_r_rows r_box o_r_worth o_r_image o_r_best o_r_bestRows) := by rw [← q1, ← q2, ← q3, ← q4, ← q5, ← q6, ← q7, ← q8, ← q9, ← q10, ← q11, ← q12, ← q13, ← q14]; exact hD
      refine W_Qe hQ ?_
      exact W.iret hx hb hr (fun t ht hW => ⟨⟨(1 : Int32), (), rfl, q0, by rw [ht]; exact hP, va_K.moved hW.alike hK, hD⟩, hS.F ht⟩) hS.2.2 dX6_set_56
    · have hF := if_t hF c0
      refine lv_ldc (v := (-100002)) hx hb hown (hlk (.constant RX6 57 (-100002)) (by decide +kernel)) dX6_set_35 ?_
      obtain ⟨q0, q1, q2, q3, q4, q5, q6, q7, q8, q9, q10, q11, q12, q13, q14⟩ := sm15 hF
      have hP : va_P (dC, dI) vwCl (seW cI cF h a fo ga ya ra held p_ fr o_given o_f_disc o_f_turns o_f_num o_f_least o_f_tab y_size y_many o_y_by o_r_ties o_r_six o_r_rows r_box o_r_worth o_r_image o_r_best o_r_bestRows) H := by rw [← q1, ← q2, ← q3, ← q4, ← q5, ← q6, ← q7, ← q8, ← q9, ← q10, ← q11, ← q12, ← q13, ← q14]; exact hP
      have hD : va_D A (seW cI cF h a fo ga ya ra held p_ fr o_given o_f_disc o_f_turns o_f_num o_f_least o_f_tab y_size y_many o_y_by o_r_ties o_r_six o_r_rows r_box o_r_worth o_r_image o_r_best o_r_bestRows) := by rw [← q1, ← q2, ← q3, ← q4, ← q5, ← q6, ← q7, ← q8, ← q9, ← q10, ← q11, ← q12, ← q13, ← q14]; exact hD
      refine W_Qe hQ ?_
      exact W.iret hx hb hr (fun t ht hW => ⟨⟨(-100002 : Int32), (), rfl, q0, by rw [ht]; exact hP, va_K.moved hW.alike hK, hD⟩, hS.F ht⟩) hS.2.2 dX6_set_37
  · have hF := if_f hF c0
    refine lv_ldc (v := (-100001)) hx hb hown (hlk (.constant RX6 67 (-100001)) (by decide +kernel)) dX6_set_8 ?_
    obtain ⟨q0, q1, q2, q3, q4, q5, q6, q7, q8, q9, q10, q11, q12, q13, q14⟩ := sm15 hF
    have hP : va_P (dC, dI) vwCl (seW cI cF h a fo ga ya ra held p_ fr o_given o_f_disc o_f_turns o_f_num o_f_least o_f_tab y_size y_many o_y_by o_r_ties o_r_six o_r_rows r_box o_r_worth o_r_image o_r_best o_r_bestRows) H := by rw [← q1, ← q2, ← q3, ← q4, ← q5, ← q6, ← q7, ← q8, ← q9, ← q10, ← q11, ← q12, ← q13, ← q14]; exact hP
    have hD : va_D A (seW cI cF h a fo ga ya ra held p_ fr o_given o_f_disc o_f_turns o_f_num o_f_least o_f_tab y_size y_many o_y_by o_r_ties o_r_six o_r_rows r_box o_r_worth o_r_image o_r_best o_r_bestRows) := by rw [← q1, ← q2, ← q3, ← q4, ← q5, ← q6, ← q7, ← q8, ← q9, ← q10, ← q11, ← q12, ← q13, ← q14]; exact hD
    refine W_Qe hQ ?_
    exact W.iret hx hb hr (fun t ht hW => ⟨⟨(-100001 : Int32), (), rfl, q0, by rw [ht]; exact hP, va_K.moved hW.alike hK, hD⟩, hS.F ht⟩) hS.2.2 dX6_set_10
def fX6_drop (held : Int32)  : Option (Int32 × (Int32)) :=
  if held = 0 then (some ((-100003 : Int32), held)) else (nm (held - (1 : Int32)) (fun (held_1 : Int32) => some (held_1, held_1)))
def lkX6_drop : List Cond := [.constant RX6 68 (-100003), .fieldLink RX6 40 "KinForms" "held" "I"]
def vX6_drop : List Cond := .code yX6_drop cX6_drop 1 (some .int) :: (lkX6_drop ++ (wsX60 ++ ([])))
theorem q_X6_drop : ∀ w ∈ vX6_drop, goodWord w = true := gd_cons rfl (gd_app (by decide +kernel) (gd_app q_wsX60 gd_nil))
abbrev rmX6_drop : Room := { frames := 0, cells := 0, slots := 0, locals := 0 }
set_option maxHeartbeats 4000000 in
set_option maxRecDepth 100000 in
theorem c_X6_drop (l : Launch) (dC : Nat → ClassId) (dI : Nat → Nat → Nat) (cI : ClassId) (h : Nat) (a : Nat → Nat) (sz : Nat) (held : Int32) (p_ : Int32)  (ro : Int32) (o_held : Int32) (hF : fX6_drop held = some (ro, o_held)) : Met l yX6_drop vX6_drop rmX6_drop (va_Pc [.ref h] (mPk (dC, dI) vwCl (kW0 cI h a held p_) [(cI, .int)] sz)) (va_Qi (fun x (_ : Unit) => x = ro) (mPo (dC, dI) vwCl (kW0 cI h a o_held p_) [(cI, .int)] (va_A (kW0 cI h a held p_) sz)) (va_A (kW0 cI h a held p_) sz)) 0 0 (va_A (kW0 cI h a held p_) sz) := by
  refine Met.ofW (cc := cX6_drop) (maxL := 1) (ret := (some .int)) (by decide) rfl ?_
  intro p e s m args below meth c s₁ B hml hv
  obtain ⟨rfl, hsz, hP, hK, hD0, hN⟩ := hv
  have hx := B.exec
  have hb := B.bytes
  have hr := B.returns
  have hts := atoms_spec (ws := vX6_drop) B.pre
  have hlk : ∀ w ∈ lkX6_drop, w.before _ s = true := fun w h => hts w (List.mem_cons_of_mem _ (List.mem_append_left _ h))
  have hown : s.vm.findClass RX6 = some m.cls := findClass_of_methodNamed B.named
  have hlocks := B.notSynchronized
  subst hsz
  have hD := hD0.self (sz := s.heap.size)
  generalize hAe : va_A (kW0 cI h a held p_) s.heap.size = A at hD ⊢
  have hA : ∀ q : Nat, s.heap.size ≤ q → A q := fun q h => by rw [← hAe]; exact Or.inr h
  have hS : va_S A s.heap s.heap [] := va_S.rf
  have hinX6 : ∀ w ∈ wsX60, w ∈ vX6_drop := fun w h => List.mem_cons_of_mem _ (List.mem_append_right _ (List.mem_append_left _ h))
  have hf_40 := hlk (.fieldLink RX6 40 "KinForms" "held" "I") (by decide +kernel)
  have hl := lv_entry ([.ref h] : List Value) (n := 1) (Nat.le_of_ble_eq_true rfl)
  rw [lg_entry_eq]
  generalize (lg_sl ([.ref h] : List Value) ++ List.replicate (1 - (lg_sl ([.ref h] : List Value)).length) Slot.unset).toArray = ls at hl ⊢
  have hl : lv_has ls 1 [(0, .ref h)] := hl
  unfold fX6_drop at hF
  refine W_Q (fun Q hQ => ?_)
  have hP : va_P (dC, dI) vwCl (kW0 cI h a held p_) s.heap := hP
  refine W_HL (fun H locs eH eL => ?_)
  rw [← eH] at hP
  have hS : va_S A s.heap H locs := by rw [eH, eL]; exact hS
  refine lv_aload_n hx hb dX6_drop_0 rfl (lv_at hl 0 rfl) ?_
  refine va_get (D := (dC, dI)) (ci := 4) (v := .int held) (C := RX6) (T := TX6) (N := 8) hx hb hts hinX6 hown hK hP 0 rfl rfl 6 (by decide) hf_40 (fun _ h9 => h9) rfl dX6_drop_1 ?_
  refine lv_if_ne (tgt := 10) hx hb dX6_drop_4 (by decide) (fun c0 => ?_) (fun c0 => ?_)
  · have hF := if_f hF c0
    refine lv_aload_n hx hb dX6_drop_10 rfl (lv_at hl 0 rfl) ?_
    refine lv_dup hx hb dX6_drop_11 rfl ?_
    refine va_get (D := (dC, dI)) (ci := 4) (v := .int held) (C := RX6) (T := TX6) (N := 8) hx hb hts hinX6 hown hK hP 0 rfl rfl 6 (by decide) hf_40 (fun _ h9 => h9) rfl dX6_drop_12 ?_
    refine lv_iconst (v := 1) hx hb dX6_drop_15 (by decide) ?_
    refine lv_isub hx hb dX6_drop_16 ?_
    refine lv_topi (fun held_1 e_held_1 => ?_)
    have hF := nm_at hF e_held_1
    refine va_put (D := (dC, dI)) (ci := 4) (v := .int held_1) (ty := .int) (C := RX6) (T := TX6) (N := 8) hx hb hts hinX6 tyX6 tyX6_ok nmX6 hown hK hP hD hS 0 rfl rfl 6 (by decide) hf_40 (fun _ h9 => h9) rfl (by decide +kernel) rfl rfl (Nat.le_of_ble_eq_true rfl) dX6_drop_17 (fun H locs hP hD hS => ?_)
    have hP : va_P (dC, dI) vwCl (kW0 cI h a held_1 p_) H := hP
    have hD : va_D A (kW0 cI h a held_1 p_) := hD
    refine lv_aload_n hx hb dX6_drop_20 rfl (lv_at hl 0 rfl) ?_
    refine va_get (D := (dC, dI)) (ci := 4) (v := .int held_1) (C := RX6) (T := TX6) (N := 8) hx hb hts hinX6 hown hK hP 0 rfl rfl 6 (by decide) hf_40 (fun _ h9 => h9) rfl dX6_drop_21 ?_
    obtain ⟨q0, q1⟩ := sm2 hF
    have hP : va_P (dC, dI) vwCl (kW0 cI h a o_held p_) H := by rw [← q1]; exact hP
    have hD : va_D A (kW0 cI h a o_held p_) := by rw [← q1]; exact hD
    refine W_Qe hQ ?_
    exact W.iret hx hb hr (fun t ht hW => ⟨⟨held_1, (), rfl, q0, by rw [ht]; exact hP, va_K.moved hW.alike hK, hD⟩, hS.F ht⟩) hS.2.2 dX6_drop_24
  · have hF := if_t hF c0
    refine lv_ldc (v := (-100003)) hx hb hown (hlk (.constant RX6 68 (-100003)) (by decide +kernel)) dX6_drop_7 ?_
    obtain ⟨q0, q1⟩ := sm2 hF
    have hP : va_P (dC, dI) vwCl (kW0 cI h a o_held p_) H := by rw [← q1]; exact hP
    have hD : va_D A (kW0 cI h a o_held p_) := by rw [← q1]; exact hD
    refine W_Qe hQ ?_
    exact W.iret hx hb hr (fun t ht hW => ⟨⟨(-100003 : Int32), (), rfl, q0, by rw [ht]; exact hP, va_K.moved hW.alike hK, hD⟩, hS.F ht⟩) hS.2.2 dX6_drop_9
def fX6_told (held : Int32) (f_disc : Int32) (f_turns : Int32) (f_num : Nat → Int32) (f_least : Nat → Int32) (p0 : Int32) (p1 : Int32) : Option (Int32) :=
  bd1 (fX6_isUnknown held p0) (fun (r_1 : Int32) => if r_1 = 0 then (bd1 (fX6_isOutside p1 (0 : Int32) (13 : Int32)) (fun (r_2 : Int32) => if r_2 = 0 then (if okI p0 12 then if (6 : Int32) ≤ p1 then (if p1 = (6 : Int32) then (some f_disc) else (nm (fun (s_5 : Int32) => some s_5) (fun (k77 : (Int32) → Option (Int32)) => if (13 : Int32) ≤ p1 then ((k77 f_turns)) else (nm (p1 - (7 : Int32)) (fun (v_4 : Int32) => if okI v_4 6 then (k77 (f_least v_4.toNatClampNeg)) else none))))) else (if okI p1 6 then nm (f_num p1.toNatClampNeg) (fun (v_6 : Int32) => some v_6) else none) else none) else (some (-100002 : Int32)))) else (some (-100001 : Int32)))
def lkX6_told : List Cond := [.constant RX6 57 (-100002), .constant RX6 67 (-100001), .fieldLink RX6 11 "KinForms" "forms" "[LKinForms$Form;"]
def vX6_told : List Cond := .code yX6_told cX6_told 4 (some .int) :: (lkX6_told ++ (wsX60 ++ (wsX10 ++ (wsV RX6 63 RX6 yX6_isUnknown vX6_isUnknown ++ (va_wsS RX6 69 yX6_isOutside vX6_isOutside ++ ([]))))))
theorem q_X6_told : ∀ w ∈ vX6_told, goodWord w = true := gd_cons rfl (gd_app (by decide +kernel) (gd_app q_wsX60 (gd_app q_wsX10 (gd_app (gd_V q_X6_isUnknown) (gd_app (gd_S q_X6_isOutside) gd_nil)))))
theorem g_X6_told_X6_isUnknown : GoodIn vX6_told (wsV RX6 63 RX6 yX6_isUnknown vX6_isUnknown) := gi_of (fun w h => List.mem_cons_of_mem _ (List.mem_append_right _ (List.mem_append_right _ (List.mem_append_right _ (List.mem_append_left _ h))))) (gd_V q_X6_isUnknown)
theorem g_X6_told_X6_isOutside : GoodIn vX6_told (va_wsS RX6 69 yX6_isOutside vX6_isOutside) := gi_of (fun w h => List.mem_cons_of_mem _ (List.mem_append_right _ (List.mem_append_right _ (List.mem_append_right _ (List.mem_append_right _ (List.mem_append_left _ h)))))) (gd_S q_X6_isOutside)
abbrev rmX6_told : Room := { frames := 1, cells := 0, slots := 0, locals := 22 }
set_option maxHeartbeats 4000000 in
set_option maxRecDepth 100000 in
theorem c_X6_told (l : Launch) (dC : Nat → ClassId) (dI : Nat → Nat → Nat) (cI : ClassId) (cF : ClassId) (h : Nat) (a : Nat → Nat) (fo : Nat) (ga : Nat → Nat) (held : Int32) (p_ : Int32) (fr : Nat → Option Nat) (f_disc : Int32) (f_turns : Int32) (f_num : Nat → Int32) (f_least : Nat → Int32) (p0 : Int32) (p1 : Int32) (ro : Int32) (hfo : okI p0 12 → fr p0.toNatClampNeg = some fo) (hF : fX6_told held f_disc f_turns f_num f_least p0 p1 = some ro) : Met l yX6_told vX6_told rmX6_told (va_Pc [.ref h, .int p0, .int p1] (rPk (dC, dI) vwCl (toW cI cF h a fo ga held p_ fr f_disc f_turns f_num f_least) [(cI, .int), (cF, .object "KinForms$Form")])) (vp_Si (fun x => x = ro)) 0 0 (fun _ => False) := by
  refine Met.ofW (cc := cX6_told) (maxL := 4) (ret := (some .int)) (by decide) rfl ?_
  intro p e s m args below meth c s₁ B hml hv
  obtain ⟨rfl, hP, hK, hN⟩ := hv
  have hx := B.exec
  have hb := B.bytes
  have hr := B.returns
  have hts := atoms_spec (ws := vX6_told) B.pre
  have hlk : ∀ w ∈ lkX6_told, w.before _ s = true := fun w h => hts w (List.mem_cons_of_mem _ (List.mem_append_left _ h))
  have hown : s.vm.findClass RX6 = some m.cls := findClass_of_methodNamed B.named
  have hlocks := B.notSynchronized
  have hinX6 : ∀ w ∈ wsX60, w ∈ vX6_told := fun w h => List.mem_cons_of_mem _ (List.mem_append_right _ (List.mem_append_left _ h))
  have hinX1 : ∀ w ∈ wsX10, w ∈ vX6_told := fun w h => List.mem_cons_of_mem _ (List.mem_append_right _ (List.mem_append_right _ (List.mem_append_left _ h)))
  have hf_11 := hlk (.fieldLink RX6 11 "KinForms" "forms" "[LKinForms$Form;") (by decide +kernel)
  have hf_82 := va_Nw.use (A := ([.ref h, .int p0, .int p1] : List Value).toArray) rfl (hN.1 (RX6, 82, "KinForms$Form", "ownTurns", "I", "KinForms") (by decide +kernel))
  have hf_79 := va_Nw.use (A := ([.ref h, .int p0, .int p1] : List Value).toArray) rfl (hN.1 (RX6, 79, "KinForms$Form", "leastNumbers", "[I", "KinForms") (by decide +kernel))
  have hf_76 := va_Nw.use (A := ([.ref h, .int p0, .int p1] : List Value).toArray) rfl (hN.1 (RX6, 76, "KinForms$Form", "disc", "I", "KinForms") (by decide +kernel))
  have hf_73 := va_Nw.use (A := ([.ref h, .int p0, .int p1] : List Value).toArray) rfl (hN.1 (RX6, 73, "KinForms$Form", "numbers", "[I", "KinForms") (by decide +kernel))
  have hl := lv_entry ([.ref h, .int p0, .int p1] : List Value) (n := 4) (Nat.le_of_ble_eq_true rfl)
  rw [lg_entry_eq]
  generalize (lg_sl ([.ref h, .int p0, .int p1] : List Value) ++ List.replicate (4 - (lg_sl ([.ref h, .int p0, .int p1] : List Value)).length) Slot.unset).toArray = ls at hl ⊢
  have hl : lv_has ls 4 [(0, .ref h), (1, .int p0), (2, .int p1)] := hl
  unfold fX6_told at hF
  refine W_Q (fun Q hQ => ?_)
  refine lv_aload_n hx hb dX6_told_0 rfl (lv_at hl 0 rfl) ?_
  refine lv_iload_n hx hb dX6_told_1 rfl (lv_at hl 1 rfl) ?_
  obtain ⟨r_1, hc, hF⟩ := bd1_of hF
  refine rc_i (va_runV (As := [.int p0]) (rest := []) ⟨hx, hb, hml, hown, hts⟩ (c_X6_isUnknown l dC dI cI h a held p_ p0 r_1 hc) (cwV 1 hts g_X6_told_X6_isUnknown rfl rfl rfl (by decide +kernel) ⟨Nat.le_of_ble_eq_true rfl, Nat.le_of_ble_eq_true rfl⟩) ⟨rPk_blind, va_recv hK hP (ci := 4) (q0 := 0) rfl rfl, rPk_at (hK.sub (tys' := [(cI, .int)]) [0] rfl) (hP.sub (ws' := (kW0 cI h a held p_)) [0] rfl) hN⟩ rfl rfl hl.1 rfl (lv_room (Nat.le_of_ble_eq_true rfl)) dX6_told_2 ⟨Nat.zero_le _, Nat.zero_le _⟩) ?_
  refine lv_if_eq (tgt := 11) hx hb dX6_told_5 (by decide) (fun c0 => ?_) (fun c0 => ?_)
  · have hF := if_t hF c0
    refine lv_iload_n hx hb dX6_told_11 rfl (lv_at hl 2 rfl) ?_
    refine lv_iconst (v := 0) hx hb dX6_told_12 (by decide) ?_
    refine lv_bipush (v := (13)) hx hb dX6_told_13 (by decide) ?_
    obtain ⟨r_2, hc, hF⟩ := bd1_of hF
    refine rc_i (va_runS (As := [.int p1, .int (0 : Int32), .int (13 : Int32)]) (rest := []) ⟨hx, hb, hml, hown, hts⟩ (c_X6_isOutside l p1 (0 : Int32) (13 : Int32) r_2 hc) (va_cwS 3 hts g_X6_told_X6_isOutside rfl rfl rfl (by decide +kernel) ⟨Nat.le_of_ble_eq_true rfl, Nat.le_of_ble_eq_true rfl⟩) ⟨tPc_blind, tPc_at⟩ rfl rfl hl.1 rfl (lv_room (Nat.le_of_ble_eq_true rfl)) dX6_told_15 ⟨Nat.zero_le _, Nat.zero_le _⟩) ?_
    refine lv_if_eq (tgt := 24) hx hb dX6_told_18 (by decide) (fun c0 => ?_) (fun c0 => ?_)
    · have hF := if_t hF c0
      refine lv_aload_n hx hb dX6_told_24 rfl (lv_at hl 0 rfl) ?_
      refine va_get (D := (dC, dI)) (ci := 4) (v := .ref (a 1)) (C := RX6) (T := TX6) (N := 8) hx hb hts hinX6 hown hK hP 0 rfl rfl 0 (by decide) hf_11 (fun _ h9 => h9) rfl dX6_told_25 ?_
      refine lv_iload_n hx hb dX6_told_28 rfl (lv_at hl 1 rfl) ?_
      obtain ⟨hg_3, hF⟩ := ck_of hF
      refine kc_aald (y := fo) hx hb hK hP 1 1 rfl rfl (hfo hg_3) hg_3 dX6_told_29 ?_
      refine lv_astore_n (lv' := [(3, .ref fo), (0, .ref h), (1, .int p0), (2, .int p1)]) hx hb dX6_told_30 rfl hl (by decide) rfl (fun ls hl => ?_)
      refine lv_iload_n hx hb dX6_told_31 rfl (lv_at hl 3 rfl) ?_
      refine lv_bipush (v := (6)) hx hb dX6_told_32 (by decide) ?_
      refine lv_icmp_ge (tgt := 44) hx hb dX6_told_34 (by decide) (fun c0 => ?_) (fun c0 => ?_)
      · have hF := if_t hF c0
        refine lv_iload_n hx hb dX6_told_44 rfl (lv_at hl 3 rfl) ?_
        refine lv_bipush (v := (6)) hx hb dX6_told_45 (by decide) ?_
        refine lv_icmp_ne (tgt := 55) hx hb dX6_told_47 (by decide) (fun c0 => ?_) (fun c0 => ?_)
        · have hF := if_f hF c0
          refine lv_iload_n hx hb dX6_told_55 rfl (lv_at hl 3 rfl) ?_
          refine lv_bipush (v := (13)) hx hb dX6_told_56 (by decide) ?_
          obtain ⟨k77, e_k77, hF⟩ := nm_ex hF
          have hk77 : ∀ (s_5 : Int32) (ls : Array Slot), lv_has ls 4 [] → k77 s_5 = some ro → W p l e rmX6_told s m ([.ref h, .int p0, .int p1] : List Value).toArray below meth c s.heap [] 0 0 Q (F0 m 77 ls [.int s_5]) := by
            intro s_5 ls hl hF
            have hF := ka1 e_k77 hF
            have q0 := sm1 hF
            refine W_Qe hQ ?_
            exact W.iret hx hb hr (fun t ht hW => ⟨_, rfl, q0, ht⟩) (fun _ h9 => by cases h9) dX6_told_77
          clear e_k77
          refine lv_icmp_ge (tgt := 73) hx hb dX6_told_58 (by decide) (fun c0 => ?_) (fun c0 => ?_)
          · have hF := if_t hF c0
            refine lv_aload_n hx hb dX6_told_73 rfl (lv_at hl 0 rfl) ?_
            refine va_getN (D := (dC, dI)) (ci := 1) (v := .int f_turns) (C := RX1) (T := TX1) (N := 6) hx hb hts hinX1 hown hK hP 2 rfl rfl 5 (by decide) hf_82 (fun _ h9 => h9) rfl dX6_told_74 ?_
            exact hk77 f_turns ls (lv_sub hl [] rfl) hF
          · have hF := if_f hF c0
            refine lv_aload_n hx hb dX6_told_61 rfl (lv_at hl 0 rfl) ?_
            refine va_getN (D := (dC, dI)) (ci := 1) (v := .ref (ga 2)) (C := RX1) (T := TX1) (N := 6) hx hb hts hinX1 hown hK hP 2 rfl rfl 1 (by decide) hf_79 (fun _ h9 => h9) rfl dX6_told_62 ?_
            refine lv_iload_n hx hb dX6_told_65 rfl (lv_at hl 3 rfl) ?_
            refine lv_bipush (v := (7)) hx hb dX6_told_66 (by decide) ?_
            refine lv_isub hx hb dX6_told_68 ?_
            refine lv_topi (fun v_4 e_v_4 => ?_)
            have hF := nm_at hF e_v_4
            obtain ⟨hi, hF⟩ := ck_of hF
            refine va_iald hx hb hK hP 4 0 rfl rfl hi dX6_told_69 ?_
            refine lv_goto (tgt := 77) hx hb dX6_told_70 (by decide) ?_
            exact hk77 (f_least v_4.toNatClampNeg) ls (lv_sub hl [] rfl) hF
        · have hF := if_t hF c0
          refine lv_aload_n hx hb dX6_told_50 rfl (lv_at hl 0 rfl) ?_
          refine va_getN (D := (dC, dI)) (ci := 1) (v := .int f_disc) (C := RX1) (T := TX1) (N := 6) hx hb hts hinX1 hown hK hP 2 rfl rfl 4 (by decide) hf_76 (fun _ h9 => h9) rfl dX6_told_51 ?_
          have q0 := sm1 hF
          refine W_Qe hQ ?_
          exact W.iret hx hb hr (fun t ht hW => ⟨_, rfl, q0, ht⟩) (fun _ h9 => by cases h9) dX6_told_54
      · have hF := if_f hF c0
        refine lv_aload_n hx hb dX6_told_37 rfl (lv_at hl 0 rfl) ?_
        refine va_getN (D := (dC, dI)) (ci := 1) (v := .ref (ga 1)) (C := RX1) (T := TX1) (N := 6) hx hb hts hinX1 hown hK hP 2 rfl rfl 0 (by decide) hf_73 (fun _ h9 => h9) rfl dX6_told_38 ?_
        refine lv_iload_n hx hb dX6_told_41 rfl (lv_at hl 3 rfl) ?_
        obtain ⟨hi, hF⟩ := ck_of hF
        refine va_iald hx hb hK hP 3 0 rfl rfl hi dX6_told_42 ?_
        refine lv_topi (fun v_6 e_v_6 => ?_)
        have hF := nm_at hF e_v_6
        have q0 := sm1 hF
        refine W_Qe hQ ?_
        exact W.iret hx hb hr (fun t ht hW => ⟨_, rfl, q0, ht⟩) (fun _ h9 => by cases h9) dX6_told_43
    · have hF := if_f hF c0
      refine lv_ldc (v := (-100002)) hx hb hown (hlk (.constant RX6 57 (-100002)) (by decide +kernel)) dX6_told_21 ?_
      have q0 := sm1 hF
      refine W_Qe hQ ?_
      exact W.iret hx hb hr (fun t ht hW => ⟨_, rfl, q0, ht⟩) (fun _ h9 => by cases h9) dX6_told_23
  · have hF := if_f hF c0
    refine lv_ldc (v := (-100001)) hx hb hown (hlk (.constant RX6 67 (-100001)) (by decide +kernel)) dX6_told_8 ?_
    have q0 := sm1 hF
    refine W_Qe hQ ?_
    exact W.iret hx hb hr (fun t ht hW => ⟨_, rfl, q0, ht⟩) (fun _ h9 => by cases h9) dX6_told_10
def fX6_value (held : Int32) (f_num : Nat → Int32) (p0 : Int32) (p1 : Int32) (p2 : Int32) (p3 : Int32) : Option (Int32) :=
  bd1 (fX6_isUnknown held p0) (fun (r_1 : Int32) => if r_1 = 0 then (bd1 (fX6_isOutside p1 (-1000 : Int32) (1000 : Int32)) (fun (r_2 : Int32) => nm (some (-100002 : Int32)) (fun (k51 : Option (Int32)) => if r_2 = 0 then (bd1 (fX6_isOutside p2 (-1000 : Int32) (1000 : Int32)) (fun (r_3 : Int32) => if r_3 = 0 then (bd1 (fX6_isOutside p3 (-1000 : Int32) (1000 : Int32)) (fun (r_4 : Int32) => if r_4 = 0 then (if okI p0 12 then bd1 (fX4_at f_num p1 p2 p3) (fun (r_6 : Int32) => some r_6) else none) else ((k51)))) else ((k51)))) else ((k51))))) else (some (-100001 : Int32)))
def lkX6_value : List Cond := [.initialized RX4, .static yX4_at, .constant RX6 57 (-100002), .constant RX6 67 (-100001), .fieldLink RX6 11 "KinForms" "forms" "[LKinForms$Form;"]
def vX6_value : List Cond := .code yX6_value cX6_value 5 (some .int) :: (lkX6_value ++ (wsX60 ++ (wsX10 ++ (wsV RX6 63 RX6 yX6_isUnknown vX6_isUnknown ++ (va_wsS RX6 69 yX6_isOutside vX6_isOutside ++ (vX4_at ++ ([])))))))
theorem q_X6_value : ∀ w ∈ vX6_value, goodWord w = true := gd_cons rfl (gd_app (by decide +kernel) (gd_app q_wsX60 (gd_app q_wsX10 (gd_app (gd_V q_X6_isUnknown) (gd_app (gd_S q_X6_isOutside) (gd_app q_X4_at gd_nil))))))
theorem g_X6_value_X6_isUnknown : GoodIn vX6_value (wsV RX6 63 RX6 yX6_isUnknown vX6_isUnknown) := gi_of (fun w h => List.mem_cons_of_mem _ (List.mem_append_right _ (List.mem_append_right _ (List.mem_append_right _ (List.mem_append_left _ h))))) (gd_V q_X6_isUnknown)
theorem g_X6_value_X6_isOutside : GoodIn vX6_value (va_wsS RX6 69 yX6_isOutside vX6_isOutside) := gi_of (fun w h => List.mem_cons_of_mem _ (List.mem_append_right _ (List.mem_append_right _ (List.mem_append_right _ (List.mem_append_right _ (List.mem_append_left _ h)))))) (gd_S q_X6_isOutside)
theorem g_X6_value_X4_at : GoodIn vX6_value (vX4_at) := gi_of (fun w h => List.mem_cons_of_mem _ (List.mem_append_right _ (List.mem_append_right _ (List.mem_append_right _ (List.mem_append_right _ (List.mem_append_right _ (List.mem_append_left _ h))))))) q_X4_at
abbrev rmX6_value : Room := { frames := 1, cells := 0, slots := 0, locals := 23 }
set_option maxHeartbeats 4000000 in
set_option maxRecDepth 100000 in
theorem c_X6_value (l : Launch) (dC : Nat → ClassId) (dI : Nat → Nat → Nat) (cI : ClassId) (cF : ClassId) (h : Nat) (a : Nat → Nat) (fo : Nat) (ga : Nat → Nat) (held : Int32) (p_ : Int32) (fr : Nat → Option Nat) (f_disc : Int32) (f_turns : Int32) (f_num : Nat → Int32) (p0 : Int32) (p1 : Int32) (p2 : Int32) (p3 : Int32) (ro : Int32) (hfo : okI p0 12 → fr p0.toNatClampNeg = some fo) (hF : fX6_value held f_num p0 p1 p2 p3 = some ro) : Met l yX6_value vX6_value rmX6_value (va_Pc [.ref h, .int p0, .int p1, .int p2, .int p3] (rPk (dC, dI) vwCl (vaW cI cF h a fo ga held p_ fr f_disc f_turns f_num) [(cI, .int), (cF, .object "KinForms$Form")])) (vp_Si (fun x => x = ro)) 0 0 (fun _ => False) := by
  refine Met.ofW (cc := cX6_value) (maxL := 5) (ret := (some .int)) (by decide) rfl ?_
  intro p e s m args below meth c s₁ B hml hv
  obtain ⟨rfl, hP, hK, hN⟩ := hv
  have hx := B.exec
  have hb := B.bytes
  have hr := B.returns
  have hts := atoms_spec (ws := vX6_value) B.pre
  have hlk : ∀ w ∈ lkX6_value, w.before _ s = true := fun w h => hts w (List.mem_cons_of_mem _ (List.mem_append_left _ h))
  have hown : s.vm.findClass RX6 = some m.cls := findClass_of_methodNamed B.named
  have hlocks := B.notSynchronized
  have hinX6 : ∀ w ∈ wsX60, w ∈ vX6_value := fun w h => List.mem_cons_of_mem _ (List.mem_append_right _ (List.mem_append_left _ h))
  have hinX1 : ∀ w ∈ wsX10, w ∈ vX6_value := fun w h => List.mem_cons_of_mem _ (List.mem_append_right _ (List.mem_append_right _ (List.mem_append_left _ h)))
  have hf_11 := hlk (.fieldLink RX6 11 "KinForms" "forms" "[LKinForms$Form;") (by decide +kernel)
  have hf_73 := va_Nw.use (A := ([.ref h, .int p0, .int p1, .int p2, .int p3] : List Value).toArray) rfl (hN.1 (RX6, 73, "KinForms$Form", "numbers", "[I", "KinForms") (by decide +kernel))
  have hl := lv_entry ([.ref h, .int p0, .int p1, .int p2, .int p3] : List Value) (n := 5) (Nat.le_of_ble_eq_true rfl)
  rw [lg_entry_eq]
  generalize (lg_sl ([.ref h, .int p0, .int p1, .int p2, .int p3] : List Value) ++ List.replicate (5 - (lg_sl ([.ref h, .int p0, .int p1, .int p2, .int p3] : List Value)).length) Slot.unset).toArray = ls at hl ⊢
  have hl : lv_has ls 5 [(0, .ref h), (1, .int p0), (2, .int p1), (3, .int p2), (4, .int p3)] := hl
  unfold fX6_value at hF
  refine W_Q (fun Q hQ => ?_)
  refine lv_aload_n hx hb dX6_value_0 rfl (lv_at hl 0 rfl) ?_
  refine lv_iload_n hx hb dX6_value_1 rfl (lv_at hl 1 rfl) ?_
  obtain ⟨r_1, hc, hF⟩ := bd1_of hF
  refine rc_i (va_runV (As := [.int p0]) (rest := []) ⟨hx, hb, hml, hown, hts⟩ (c_X6_isUnknown l dC dI cI h a held p_ p0 r_1 hc) (cwV 1 hts g_X6_value_X6_isUnknown rfl rfl rfl (by decide +kernel) ⟨Nat.le_of_ble_eq_true rfl, Nat.le_of_ble_eq_true rfl⟩) ⟨rPk_blind, va_recv hK hP (ci := 4) (q0 := 0) rfl rfl, rPk_at (hK.sub (tys' := [(cI, .int)]) [0] rfl) (hP.sub (ws' := (kW0 cI h a held p_)) [0] rfl) hN⟩ rfl rfl hl.1 rfl (lv_room (Nat.le_of_ble_eq_true rfl)) dX6_value_2 ⟨Nat.zero_le _, Nat.zero_le _⟩) ?_
  refine lv_if_eq (tgt := 11) hx hb dX6_value_5 (by decide) (fun c0 => ?_) (fun c0 => ?_)
  · have hF := if_t hF c0
    refine lv_iload_n hx hb dX6_value_11 rfl (lv_at hl 2 rfl) ?_
    refine lv_sipush (v := (-1000)) hx hb dX6_value_12 (by decide) ?_
    refine lv_sipush (v := (1000)) hx hb dX6_value_15 (by decide) ?_
    obtain ⟨r_2, hc, hF⟩ := bd1_of hF
    refine rc_i (va_runS (As := [.int p1, .int (-1000 : Int32), .int (1000 : Int32)]) (rest := []) ⟨hx, hb, hml, hown, hts⟩ (c_X6_isOutside l p1 (-1000 : Int32) (1000 : Int32) r_2 hc) (va_cwS 3 hts g_X6_value_X6_isOutside rfl rfl rfl (by decide +kernel) ⟨Nat.le_of_ble_eq_true rfl, Nat.le_of_ble_eq_true rfl⟩) ⟨tPc_blind, tPc_at⟩ rfl rfl hl.1 rfl (lv_room (Nat.le_of_ble_eq_true rfl)) dX6_value_18 ⟨Nat.zero_le _, Nat.zero_le _⟩) ?_
    obtain ⟨k51, e_k51, hF⟩ := nm_ex hF
    have hk51 : ∀  (ls : Array Slot), lv_has ls 5 [] → k51 = some ro → W p l e rmX6_value s m ([.ref h, .int p0, .int p1, .int p2, .int p3] : List Value).toArray below meth c s.heap [] 0 0 Q (F0 m 51 ls []) := by
      intro ls hl hF
      have hF := ka0 e_k51 hF
      refine lv_ldc (v := (-100002)) hx hb hown (hlk (.constant RX6 57 (-100002)) (by decide +kernel)) dX6_value_51 ?_
      have q0 := sm1 hF
      refine W_Qe hQ ?_
      exact W.iret hx hb hr (fun t ht hW => ⟨_, rfl, q0, ht⟩) (fun _ h9 => by cases h9) dX6_value_53
    clear e_k51
    refine lv_if_ne (tgt := 51) hx hb dX6_value_21 (by decide) (fun c0 => ?_) (fun c0 => ?_)
    · have hF := if_f hF c0
      exact hk51 ls (lv_sub hl [] rfl) hF
    · have hF := if_t hF c0
      refine lv_iload_n hx hb dX6_value_24 rfl (lv_at hl 3 rfl) ?_
      refine lv_sipush (v := (-1000)) hx hb dX6_value_25 (by decide) ?_
      refine lv_sipush (v := (1000)) hx hb dX6_value_28 (by decide) ?_
      obtain ⟨r_3, hc, hF⟩ := bd1_of hF
      refine rc_i (va_runS (As := [.int p2, .int (-1000 : Int32), .int (1000 : Int32)]) (rest := []) ⟨hx, hb, hml, hown, hts⟩ (c_X6_isOutside l p2 (-1000 : Int32) (1000 : Int32) r_3 hc) (va_cwS 3 hts g_X6_value_X6_isOutside rfl rfl rfl (by decide +kernel) ⟨Nat.le_of_ble_eq_true rfl, Nat.le_of_ble_eq_true rfl⟩) ⟨tPc_blind, tPc_at⟩ rfl rfl hl.1 rfl (lv_room (Nat.le_of_ble_eq_true rfl)) dX6_value_31 ⟨Nat.zero_le _, Nat.zero_le _⟩) ?_
      refine lv_if_ne (tgt := 51) hx hb dX6_value_34 (by decide) (fun c0 => ?_) (fun c0 => ?_)
      · have hF := if_f hF c0
        exact hk51 ls (lv_sub hl [] rfl) hF
      · have hF := if_t hF c0
        refine lv_iload hx hb dX6_value_37 (lv_at hl 4 rfl) ?_
        refine lv_sipush (v := (-1000)) hx hb dX6_value_39 (by decide) ?_
        refine lv_sipush (v := (1000)) hx hb dX6_value_42 (by decide) ?_
        obtain ⟨r_4, hc, hF⟩ := bd1_of hF
        refine rc_i (va_runS (As := [.int p3, .int (-1000 : Int32), .int (1000 : Int32)]) (rest := []) ⟨hx, hb, hml, hown, hts⟩ (c_X6_isOutside l p3 (-1000 : Int32) (1000 : Int32) r_4 hc) (va_cwS 3 hts g_X6_value_X6_isOutside rfl rfl rfl (by decide +kernel) ⟨Nat.le_of_ble_eq_true rfl, Nat.le_of_ble_eq_true rfl⟩) ⟨tPc_blind, tPc_at⟩ rfl rfl hl.1 rfl (lv_room (Nat.le_of_ble_eq_true rfl)) dX6_value_45 ⟨Nat.zero_le _, Nat.zero_le _⟩) ?_
        refine lv_if_eq (tgt := 54) hx hb dX6_value_48 (by decide) (fun c0 => ?_) (fun c0 => ?_)
        · have hF := if_t hF c0
          refine lv_aload_n hx hb dX6_value_54 rfl (lv_at hl 0 rfl) ?_
          refine va_get (D := (dC, dI)) (ci := 4) (v := .ref (a 1)) (C := RX6) (T := TX6) (N := 8) hx hb hts hinX6 hown hK hP 0 rfl rfl 0 (by decide) hf_11 (fun _ h9 => h9) rfl dX6_value_55 ?_
          refine lv_iload_n hx hb dX6_value_58 rfl (lv_at hl 1 rfl) ?_
          obtain ⟨hg_5, hF⟩ := ck_of hF
          refine kc_aald (y := fo) hx hb hK hP 1 1 rfl rfl (hfo hg_5) hg_5 dX6_value_59 ?_
          refine va_getN (D := (dC, dI)) (ci := 1) (v := .ref (ga 1)) (C := RX1) (T := TX1) (N := 6) hx hb hts hinX1 hown hK hP 2 rfl rfl 0 (by decide) hf_73 (fun _ h9 => h9) rfl dX6_value_60 ?_
          refine lv_iload_n hx hb dX6_value_63 rfl (lv_at hl 2 rfl) ?_
          refine lv_iload_n hx hb dX6_value_64 rfl (lv_at hl 3 rfl) ?_
          refine lv_iload hx hb dX6_value_65 (lv_at hl 4 rfl) ?_
          obtain ⟨r_6, hc, hF⟩ := bd1_of hF
          refine rc_i (va_runSN (As := [.ref (ga 1), .int p1, .int p2, .int p3]) (rest := []) ⟨hx, hb, hml, hown, hts⟩ (c_X4_at l dC dI cI (ga 1) f_num p1 p2 p3 r_6 hc) ⟨va_cnB 4 hts g_X6_value_X4_at rfl rfl rfl (hN.2 (RX6, 85, yX4_at, "KinForms") (by decide +kernel)) (hlk (.initialized RX4) (by decide +kernel)) (by decide +kernel) ⟨Nat.le_of_ble_eq_true rfl, Nat.le_of_ble_eq_true rfl⟩, hlk (.static yX4_at) (by decide +kernel), trivial⟩ ⟨rPk_blind, rPk_at (hK.sub (tys' := [(cI, .int)]) [0] rfl) (hP.sub (ws' := (sW1 cI (ga 1) f_num)) [3] rfl) hN⟩ rfl rfl hl.1 rfl (lv_room (Nat.le_of_ble_eq_true rfl)) dX6_value_67 ⟨Nat.zero_le _, Nat.zero_le _⟩) ?_
          have q0 := sm1 hF
          refine W_Qe hQ ?_
          exact W.iret hx hb hr (fun t ht hW => ⟨_, rfl, q0, ht⟩) (fun _ h9 => by cases h9) dX6_value_70
        · have hF := if_f hF c0
          exact hk51 ls (lv_sub hl [] rfl) hF
  · have hF := if_f hF c0
    refine lv_ldc (v := (-100001)) hx hb hown (hlk (.constant RX6 67 (-100001)) (by decide +kernel)) dX6_value_8 ?_
    have q0 := sm1 hF
    refine W_Qe hQ ?_
    exact W.iret hx hb hr (fun t ht hW => ⟨_, rfl, q0, ht⟩) (fun _ h9 => by cases h9) dX6_value_10
def fX6_taken (fu : Nat) (held : Int32) (f_least : Nat → Int32) (p0 : Int32) (p1 : Int32) : Option (Int32) :=
  bd1 (fX6_isUnknown held p0) (fun (r_1 : Int32) => if r_1 = 0 then (bd1 (fX6_isOutside p1 (0 : Int32) (100 : Int32)) (fun (r_2 : Int32) => if r_2 = 0 then (if okI p0 12 then bd1 (fX5_timesOf fu f_least p1) (fun (r_4 : Int32) => some r_4) else none) else (some (-100002 : Int32)))) else (some (-100001 : Int32)))
def lkX6_taken : List Cond := [.initialized RX5, .static yX5_timesOf, .constant RX6 57 (-100002), .constant RX6 67 (-100001), .fieldLink RX6 11 "KinForms" "forms" "[LKinForms$Form;"]
def vX6_taken : List Cond := .code yX6_taken cX6_taken 3 (some .int) :: (lkX6_taken ++ (wsX60 ++ (wsX10 ++ (wsV RX6 63 RX6 yX6_isUnknown vX6_isUnknown ++ (va_wsS RX6 69 yX6_isOutside vX6_isOutside ++ (vX5_timesOf ++ ([])))))))
theorem q_X6_taken : ∀ w ∈ vX6_taken, goodWord w = true := gd_cons rfl (gd_app (by decide +kernel) (gd_app q_wsX60 (gd_app q_wsX10 (gd_app (gd_V q_X6_isUnknown) (gd_app (gd_S q_X6_isOutside) (gd_app q_X5_timesOf gd_nil))))))
theorem g_X6_taken_X6_isUnknown : GoodIn vX6_taken (wsV RX6 63 RX6 yX6_isUnknown vX6_isUnknown) := gi_of (fun w h => List.mem_cons_of_mem _ (List.mem_append_right _ (List.mem_append_right _ (List.mem_append_right _ (List.mem_append_left _ h))))) (gd_V q_X6_isUnknown)
theorem g_X6_taken_X6_isOutside : GoodIn vX6_taken (va_wsS RX6 69 yX6_isOutside vX6_isOutside) := gi_of (fun w h => List.mem_cons_of_mem _ (List.mem_append_right _ (List.mem_append_right _ (List.mem_append_right _ (List.mem_append_right _ (List.mem_append_left _ h)))))) (gd_S q_X6_isOutside)
theorem g_X6_taken_X5_timesOf : GoodIn vX6_taken (vX5_timesOf) := gi_of (fun w h => List.mem_cons_of_mem _ (List.mem_append_right _ (List.mem_append_right _ (List.mem_append_right _ (List.mem_append_right _ (List.mem_append_right _ (List.mem_append_left _ h))))))) q_X5_timesOf
abbrev rmX6_taken : Room := { frames := 3, cells := 0, slots := 0, locals := 78 }
set_option maxHeartbeats 4000000 in
set_option maxRecDepth 100000 in
theorem c_X6_taken (l : Launch) (dC : Nat → ClassId) (dI : Nat → Nat → Nat) (cI : ClassId) (cF : ClassId) (h : Nat) (a : Nat → Nat) (fo : Nat) (ga : Nat → Nat) (fu : Nat) (held : Int32) (p_ : Int32) (fr : Nat → Option Nat) (f_disc : Int32) (f_turns : Int32) (f_least : Nat → Int32) (p0 : Int32) (p1 : Int32) (ro : Int32) (hfo : okI p0 12 → fr p0.toNatClampNeg = some fo) (hF : fX6_taken fu held f_least p0 p1 = some ro) : Met l yX6_taken vX6_taken rmX6_taken (va_Pc [.ref h, .int p0, .int p1] (rPk (dC, dI) vwCl (leW cI cF h a fo ga held p_ fr f_disc f_turns f_least) [(cI, .int), (cF, .object "KinForms$Form")])) (vp_Si (fun x => x = ro)) 0 0 (fun _ => False) := by
  refine Met.ofW (cc := cX6_taken) (maxL := 3) (ret := (some .int)) (by decide) rfl ?_
  intro p e s m args below meth c s₁ B hml hv
  obtain ⟨rfl, hP, hK, hN⟩ := hv
  have hx := B.exec
  have hb := B.bytes
  have hr := B.returns
  have hts := atoms_spec (ws := vX6_taken) B.pre
  have hlk : ∀ w ∈ lkX6_taken, w.before _ s = true := fun w h => hts w (List.mem_cons_of_mem _ (List.mem_append_left _ h))
  have hown : s.vm.findClass RX6 = some m.cls := findClass_of_methodNamed B.named
  have hlocks := B.notSynchronized
  have hinX6 : ∀ w ∈ wsX60, w ∈ vX6_taken := fun w h => List.mem_cons_of_mem _ (List.mem_append_right _ (List.mem_append_left _ h))
  have hinX1 : ∀ w ∈ wsX10, w ∈ vX6_taken := fun w h => List.mem_cons_of_mem _ (List.mem_append_right _ (List.mem_append_right _ (List.mem_append_left _ h)))
  have hf_11 := hlk (.fieldLink RX6 11 "KinForms" "forms" "[LKinForms$Form;") (by decide +kernel)
  have hf_79 := va_Nw.use (A := ([.ref h, .int p0, .int p1] : List Value).toArray) rfl (hN.1 (RX6, 79, "KinForms$Form", "leastNumbers", "[I", "KinForms") (by decide +kernel))
  have hl := lv_entry ([.ref h, .int p0, .int p1] : List Value) (n := 3) (Nat.le_of_ble_eq_true rfl)
  rw [lg_entry_eq]
  generalize (lg_sl ([.ref h, .int p0, .int p1] : List Value) ++ List.replicate (3 - (lg_sl ([.ref h, .int p0, .int p1] : List Value)).length) Slot.unset).toArray = ls at hl ⊢
  have hl : lv_has ls 3 [(0, .ref h), (1, .int p0), (2, .int p1)] := hl
  unfold fX6_taken at hF
  refine W_Q (fun Q hQ => ?_)
  refine lv_aload_n hx hb dX6_taken_0 rfl (lv_at hl 0 rfl) ?_
  refine lv_iload_n hx hb dX6_taken_1 rfl (lv_at hl 1 rfl) ?_
  obtain ⟨r_1, hc, hF⟩ := bd1_of hF
  refine rc_i (va_runV (As := [.int p0]) (rest := []) ⟨hx, hb, hml, hown, hts⟩ (c_X6_isUnknown l dC dI cI h a held p_ p0 r_1 hc) (cwV 1 hts g_X6_taken_X6_isUnknown rfl rfl rfl (by decide +kernel) ⟨Nat.le_of_ble_eq_true rfl, Nat.le_of_ble_eq_true rfl⟩) ⟨rPk_blind, va_recv hK hP (ci := 4) (q0 := 0) rfl rfl, rPk_at (hK.sub (tys' := [(cI, .int)]) [0] rfl) (hP.sub (ws' := (kW0 cI h a held p_)) [0] rfl) hN⟩ rfl rfl hl.1 rfl (lv_room (Nat.le_of_ble_eq_true rfl)) dX6_taken_2 ⟨Nat.zero_le _, Nat.zero_le _⟩) ?_
  refine lv_if_eq (tgt := 11) hx hb dX6_taken_5 (by decide) (fun c0 => ?_) (fun c0 => ?_)
  · have hF := if_t hF c0
    refine lv_iload_n hx hb dX6_taken_11 rfl (lv_at hl 2 rfl) ?_
    refine lv_iconst (v := 0) hx hb dX6_taken_12 (by decide) ?_
    refine lv_bipush (v := (100)) hx hb dX6_taken_13 (by decide) ?_
    obtain ⟨r_2, hc, hF⟩ := bd1_of hF
    refine rc_i (va_runS (As := [.int p1, .int (0 : Int32), .int (100 : Int32)]) (rest := []) ⟨hx, hb, hml, hown, hts⟩ (c_X6_isOutside l p1 (0 : Int32) (100 : Int32) r_2 hc) (va_cwS 3 hts g_X6_taken_X6_isOutside rfl rfl rfl (by decide +kernel) ⟨Nat.le_of_ble_eq_true rfl, Nat.le_of_ble_eq_true rfl⟩) ⟨tPc_blind, tPc_at⟩ rfl rfl hl.1 rfl (lv_room (Nat.le_of_ble_eq_true rfl)) dX6_taken_15 ⟨Nat.zero_le _, Nat.zero_le _⟩) ?_
    refine lv_if_eq (tgt := 24) hx hb dX6_taken_18 (by decide) (fun c0 => ?_) (fun c0 => ?_)
    · have hF := if_t hF c0
      refine lv_aload_n hx hb dX6_taken_24 rfl (lv_at hl 0 rfl) ?_
      refine va_get (D := (dC, dI)) (ci := 4) (v := .ref (a 1)) (C := RX6) (T := TX6) (N := 8) hx hb hts hinX6 hown hK hP 0 rfl rfl 0 (by decide) hf_11 (fun _ h9 => h9) rfl dX6_taken_25 ?_
      refine lv_iload_n hx hb dX6_taken_28 rfl (lv_at hl 1 rfl) ?_
      obtain ⟨hg_3, hF⟩ := ck_of hF
      refine kc_aald (y := fo) hx hb hK hP 1 1 rfl rfl (hfo hg_3) hg_3 dX6_taken_29 ?_
      refine va_getN (D := (dC, dI)) (ci := 1) (v := .ref (ga 2)) (C := RX1) (T := TX1) (N := 6) hx hb hts hinX1 hown hK hP 2 rfl rfl 1 (by decide) hf_79 (fun _ h9 => h9) rfl dX6_taken_30 ?_
      refine lv_iload_n hx hb dX6_taken_33 rfl (lv_at hl 2 rfl) ?_
      obtain ⟨r_4, hc, hF⟩ := bd1_of hF
      refine rc_i (va_runSN (As := [.ref (ga 2), .int p1]) (rest := []) ⟨hx, hb, hml, hown, hts⟩ (c_X5_timesOf l dC dI cI (ga 2) fu f_least p1 r_4 hc) ⟨va_cnB 2 hts g_X6_taken_X5_timesOf rfl rfl rfl (hN.2 (RX6, 89, yX5_timesOf, "KinForms") (by decide +kernel)) (hlk (.initialized RX5) (by decide +kernel)) (by decide +kernel) ⟨Nat.le_of_ble_eq_true rfl, Nat.le_of_ble_eq_true rfl⟩, hlk (.static yX5_timesOf) (by decide +kernel), trivial⟩ ⟨rPk_blind, rPk_at (hK.sub (tys' := [(cI, .int)]) [0] rfl) (hP.sub (ws' := (sW1 cI (ga 2) f_least)) [3] rfl) hN⟩ rfl rfl hl.1 rfl (lv_room (Nat.le_of_ble_eq_true rfl)) dX6_taken_34 ⟨Nat.zero_le _, Nat.zero_le _⟩) ?_
      have q0 := sm1 hF
      refine W_Qe hQ ?_
      exact W.iret hx hb hr (fun t ht hW => ⟨_, rfl, q0, ht⟩) (fun _ h9 => by cases h9) dX6_taken_37
    · have hF := if_f hF c0
      refine lv_ldc (v := (-100002)) hx hb hown (hlk (.constant RX6 57 (-100002)) (by decide +kernel)) dX6_taken_21 ?_
      have q0 := sm1 hF
      refine W_Qe hQ ?_
      exact W.iret hx hb hr (fun t ht hW => ⟨_, rfl, q0, ht⟩) (fun _ h9 => by cases h9) dX6_taken_23
  · have hF := if_f hF c0
    refine lv_ldc (v := (-100001)) hx hb hown (hlk (.constant RX6 67 (-100001)) (by decide +kernel)) dX6_taken_8 ?_
    have q0 := sm1 hF
    refine W_Qe hQ ?_
    exact W.iret hx hb hr (fun t ht hW => ⟨_, rfl, q0, ht⟩) (fun _ h9 => by cases h9) dX6_taken_10
def fX6_least (held : Int32) (f_least : Nat → Int32) (p0 : Int32) : Option (Int32) :=
  bd1 (fX6_isUnknown held p0) (fun (r_1 : Int32) => nm (fun (s_3 : Int32) => some s_3) (fun (k24 : (Int32) → Option (Int32)) => if r_1 = 0 then (if okI p0 12 then (k24 (f_least 0)) else none) else ((k24 (-100001 : Int32)))))
def lkX6_least : List Cond := [.constant RX6 67 (-100001), .fieldLink RX6 11 "KinForms" "forms" "[LKinForms$Form;"]
def vX6_least : List Cond := .code yX6_least cX6_least 2 (some .int) :: (lkX6_least ++ (wsX60 ++ (wsX10 ++ (wsV RX6 63 RX6 yX6_isUnknown vX6_isUnknown ++ ([])))))
theorem q_X6_least : ∀ w ∈ vX6_least, goodWord w = true := gd_cons rfl (gd_app (by decide +kernel) (gd_app q_wsX60 (gd_app q_wsX10 (gd_app (gd_V q_X6_isUnknown) gd_nil))))
theorem g_X6_least_X6_isUnknown : GoodIn vX6_least (wsV RX6 63 RX6 yX6_isUnknown vX6_isUnknown) := gi_of (fun w h => List.mem_cons_of_mem _ (List.mem_append_right _ (List.mem_append_right _ (List.mem_append_right _ (List.mem_append_left _ h))))) (gd_V q_X6_isUnknown)
abbrev rmX6_least : Room := { frames := 1, cells := 0, slots := 0, locals := 21 }
set_option maxHeartbeats 4000000 in
set_option maxRecDepth 100000 in
theorem c_X6_least (l : Launch) (dC : Nat → ClassId) (dI : Nat → Nat → Nat) (cI : ClassId) (cF : ClassId) (h : Nat) (a : Nat → Nat) (fo : Nat) (ga : Nat → Nat) (held : Int32) (p_ : Int32) (fr : Nat → Option Nat) (f_disc : Int32) (f_turns : Int32) (f_least : Nat → Int32) (p0 : Int32) (ro : Int32) (hfo : okI p0 12 → fr p0.toNatClampNeg = some fo) (hF : fX6_least held f_least p0 = some ro) : Met l yX6_least vX6_least rmX6_least (va_Pc [.ref h, .int p0] (rPk (dC, dI) vwCl (leW cI cF h a fo ga held p_ fr f_disc f_turns f_least) [(cI, .int), (cF, .object "KinForms$Form")])) (vp_Si (fun x => x = ro)) 0 0 (fun _ => False) := by
  refine Met.ofW (cc := cX6_least) (maxL := 2) (ret := (some .int)) (by decide) rfl ?_
  intro p e s m args below meth c s₁ B hml hv
  obtain ⟨rfl, hP, hK, hN⟩ := hv
  have hx := B.exec
  have hb := B.bytes
  have hr := B.returns
  have hts := atoms_spec (ws := vX6_least) B.pre
  have hlk : ∀ w ∈ lkX6_least, w.before _ s = true := fun w h => hts w (List.mem_cons_of_mem _ (List.mem_append_left _ h))
  have hown : s.vm.findClass RX6 = some m.cls := findClass_of_methodNamed B.named
  have hlocks := B.notSynchronized
  have hinX6 : ∀ w ∈ wsX60, w ∈ vX6_least := fun w h => List.mem_cons_of_mem _ (List.mem_append_right _ (List.mem_append_left _ h))
  have hinX1 : ∀ w ∈ wsX10, w ∈ vX6_least := fun w h => List.mem_cons_of_mem _ (List.mem_append_right _ (List.mem_append_right _ (List.mem_append_left _ h)))
  have hf_11 := hlk (.fieldLink RX6 11 "KinForms" "forms" "[LKinForms$Form;") (by decide +kernel)
  have hf_79 := va_Nw.use (A := ([.ref h, .int p0] : List Value).toArray) rfl (hN.1 (RX6, 79, "KinForms$Form", "leastNumbers", "[I", "KinForms") (by decide +kernel))
  have hl := lv_entry ([.ref h, .int p0] : List Value) (n := 2) (Nat.le_of_ble_eq_true rfl)
  rw [lg_entry_eq]
  generalize (lg_sl ([.ref h, .int p0] : List Value) ++ List.replicate (2 - (lg_sl ([.ref h, .int p0] : List Value)).length) Slot.unset).toArray = ls at hl ⊢
  have hl : lv_has ls 2 [(0, .ref h), (1, .int p0)] := hl
  unfold fX6_least at hF
  refine W_Q (fun Q hQ => ?_)
  refine lv_aload_n hx hb dX6_least_0 rfl (lv_at hl 0 rfl) ?_
  refine lv_iload_n hx hb dX6_least_1 rfl (lv_at hl 1 rfl) ?_
  obtain ⟨r_1, hc, hF⟩ := bd1_of hF
  refine rc_i (va_runV (As := [.int p0]) (rest := []) ⟨hx, hb, hml, hown, hts⟩ (c_X6_isUnknown l dC dI cI h a held p_ p0 r_1 hc) (cwV 1 hts g_X6_least_X6_isUnknown rfl rfl rfl (by decide +kernel) ⟨Nat.le_of_ble_eq_true rfl, Nat.le_of_ble_eq_true rfl⟩) ⟨rPk_blind, va_recv hK hP (ci := 4) (q0 := 0) rfl rfl, rPk_at (hK.sub (tys' := [(cI, .int)]) [0] rfl) (hP.sub (ws' := (kW0 cI h a held p_)) [0] rfl) hN⟩ rfl rfl hl.1 rfl (lv_room (Nat.le_of_ble_eq_true rfl)) dX6_least_2 ⟨Nat.zero_le _, Nat.zero_le _⟩) ?_
  obtain ⟨k24, e_k24, hF⟩ := nm_ex hF
  have hk24 : ∀ (s_3 : Int32) (ls : Array Slot), lv_has ls 2 [] → k24 s_3 = some ro → W p l e rmX6_least s m ([.ref h, .int p0] : List Value).toArray below meth c s.heap [] 0 0 Q (F0 m 24 ls [.int s_3]) := by
    intro s_3 ls hl hF
    have hF := ka1 e_k24 hF
    have q0 := sm1 hF
    refine W_Qe hQ ?_
    exact W.iret hx hb hr (fun t ht hW => ⟨_, rfl, q0, ht⟩) (fun _ h9 => by cases h9) dX6_least_24
  clear e_k24
  refine lv_if_eq (tgt := 13) hx hb dX6_least_5 (by decide) (fun c0 => ?_) (fun c0 => ?_)
  · have hF := if_t hF c0
    refine lv_aload_n hx hb dX6_least_13 rfl (lv_at hl 0 rfl) ?_
    refine va_get (D := (dC, dI)) (ci := 4) (v := .ref (a 1)) (C := RX6) (T := TX6) (N := 8) hx hb hts hinX6 hown hK hP 0 rfl rfl 0 (by decide) hf_11 (fun _ h9 => h9) rfl dX6_least_14 ?_
    refine lv_iload_n hx hb dX6_least_17 rfl (lv_at hl 1 rfl) ?_
    obtain ⟨hg_2, hF⟩ := ck_of hF
    refine kc_aald (y := fo) hx hb hK hP 1 1 rfl rfl (hfo hg_2) hg_2 dX6_least_18 ?_
    refine va_getN (D := (dC, dI)) (ci := 1) (v := .ref (ga 2)) (C := RX1) (T := TX1) (N := 6) hx hb hts hinX1 hown hK hP 2 rfl rfl 1 (by decide) hf_79 (fun _ h9 => h9) rfl dX6_least_19 ?_
    refine lv_iconst (v := 0) hx hb dX6_least_22 (by decide) ?_
    refine kc_iald (j := 0) hx hb hK hP 3 0 rfl rfl (by decide) (by decide) dX6_least_23 ?_
    exact hk24 (f_least 0) ls (lv_sub hl [] rfl) hF
  · have hF := if_f hF c0
    refine lv_ldc (v := (-100001)) hx hb hown (hlk (.constant RX6 67 (-100001)) (by decide +kernel)) dX6_least_8 ?_
    refine lv_goto (tgt := 24) hx hb dX6_least_10 (by decide) ?_
    exact hk24 (-100001 : Int32) ls (lv_sub hl [] rfl) hF
def fX6_same (fu : Nat) (held : Int32) (f_least : Nat → Int32) (f2_least : Nat → Int32) (p0 : Int32) (p1 : Int32) : Option (Int32) :=
  bd1 (fX6_isUnknown held p0) (fun (r_1 : Int32) => nm (some (-100001 : Int32)) (fun (k16 : Option (Int32)) => if r_1 = 0 then (bd1 (fX6_isUnknown held p1) (fun (r_2 : Int32) => if r_2 = 0 then (if okI p0 12 then if okI p1 12 then bd1 (fX4_areAlike fu f_least f2_least) (fun (r_5 : Int32) => nm (fun (s_6 : Int32) => some s_6) (fun (k48 : (Int32) → Option (Int32)) => if r_5 = 0 then ((k48 (0 : Int32))) else ((k48 (1 : Int32))))) else none else none) else ((k16)))) else ((k16))))
def lkX6_same : List Cond := [.initialized RX4, .static yX4_areAlike, .constant RX6 67 (-100001), .fieldLink RX6 11 "KinForms" "forms" "[LKinForms$Form;"]
def vX6_same : List Cond := .code yX6_same cX6_same 3 (some .int) :: (lkX6_same ++ (wsX60 ++ (wsX10 ++ (wsV RX6 63 RX6 yX6_isUnknown vX6_isUnknown ++ (vX4_areAlike ++ ([]))))))
theorem q_X6_same : ∀ w ∈ vX6_same, goodWord w = true := gd_cons rfl (gd_app (by decide +kernel) (gd_app q_wsX60 (gd_app q_wsX10 (gd_app (gd_V q_X6_isUnknown) (gd_app q_X4_areAlike gd_nil)))))
theorem g_X6_same_X6_isUnknown : GoodIn vX6_same (wsV RX6 63 RX6 yX6_isUnknown vX6_isUnknown) := gi_of (fun w h => List.mem_cons_of_mem _ (List.mem_append_right _ (List.mem_append_right _ (List.mem_append_right _ (List.mem_append_left _ h))))) (gd_V q_X6_isUnknown)
theorem g_X6_same_X4_areAlike : GoodIn vX6_same (vX4_areAlike) := gi_of (fun w h => List.mem_cons_of_mem _ (List.mem_append_right _ (List.mem_append_right _ (List.mem_append_right _ (List.mem_append_right _ (List.mem_append_left _ h)))))) q_X4_areAlike
abbrev rmX6_same : Room := { frames := 1, cells := 0, slots := 0, locals := 22 }
set_option maxHeartbeats 4000000 in
set_option maxRecDepth 100000 in
theorem c_X6_same (l : Launch) (dC : Nat → ClassId) (dI : Nat → Nat → Nat) (cI : ClassId) (cF : ClassId) (h : Nat) (a : Nat → Nat) (fo : Nat) (ga : Nat → Nat) (fo2 : Nat) (gb : Nat → Nat) (fu : Nat) (held : Int32) (p_ : Int32) (fr : Nat → Option Nat) (f_disc : Int32) (f_turns : Int32) (f_least : Nat → Int32) (f2_disc : Int32) (f2_turns : Int32) (f2_least : Nat → Int32) (p0 : Int32) (p1 : Int32) (ro : Int32) (hfo : okI p0 12 → fr p0.toNatClampNeg = some fo) (hfo2 : okI p1 12 → fr p1.toNatClampNeg = some fo2) (hF : fX6_same fu held f_least f2_least p0 p1 = some ro) : Met l yX6_same vX6_same rmX6_same (va_Pc [.ref h, .int p0, .int p1] (rPk (dC, dI) vwCl (saW cI cF h a fo ga fo2 gb held p_ fr f_disc f_turns f_least f2_disc f2_turns f2_least) [(cI, .int), (cF, .object "KinForms$Form")])) (vp_Si (fun x => x = ro)) 0 0 (fun _ => False) := by
  refine Met.ofW (cc := cX6_same) (maxL := 3) (ret := (some .int)) (by decide) rfl ?_
  intro p e s m args below meth c s₁ B hml hv
  obtain ⟨rfl, hP, hK, hN⟩ := hv
  have hx := B.exec
  have hb := B.bytes
  have hr := B.returns
  have hts := atoms_spec (ws := vX6_same) B.pre
  have hlk : ∀ w ∈ lkX6_same, w.before _ s = true := fun w h => hts w (List.mem_cons_of_mem _ (List.mem_append_left _ h))
  have hown : s.vm.findClass RX6 = some m.cls := findClass_of_methodNamed B.named
  have hlocks := B.notSynchronized
  have hinX6 : ∀ w ∈ wsX60, w ∈ vX6_same := fun w h => List.mem_cons_of_mem _ (List.mem_append_right _ (List.mem_append_left _ h))
  have hinX1 : ∀ w ∈ wsX10, w ∈ vX6_same := fun w h => List.mem_cons_of_mem _ (List.mem_append_right _ (List.mem_append_right _ (List.mem_append_left _ h)))
  have hf_11 := hlk (.fieldLink RX6 11 "KinForms" "forms" "[LKinForms$Form;") (by decide +kernel)
  have hf_79 := va_Nw.use (A := ([.ref h, .int p0, .int p1] : List Value).toArray) rfl (hN.1 (RX6, 79, "KinForms$Form", "leastNumbers", "[I", "KinForms") (by decide +kernel))
  have hl := lv_entry ([.ref h, .int p0, .int p1] : List Value) (n := 3) (Nat.le_of_ble_eq_true rfl)
  rw [lg_entry_eq]
  generalize (lg_sl ([.ref h, .int p0, .int p1] : List Value) ++ List.replicate (3 - (lg_sl ([.ref h, .int p0, .int p1] : List Value)).length) Slot.unset).toArray = ls at hl ⊢
  have hl : lv_has ls 3 [(0, .ref h), (1, .int p0), (2, .int p1)] := hl
  unfold fX6_same at hF
  refine W_Q (fun Q hQ => ?_)
  refine lv_aload_n hx hb dX6_same_0 rfl (lv_at hl 0 rfl) ?_
  refine lv_iload_n hx hb dX6_same_1 rfl (lv_at hl 1 rfl) ?_
  obtain ⟨r_1, hc, hF⟩ := bd1_of hF
  refine rc_i (va_runV (As := [.int p0]) (rest := []) ⟨hx, hb, hml, hown, hts⟩ (c_X6_isUnknown l dC dI cI h a held p_ p0 r_1 hc) (cwV 1 hts g_X6_same_X6_isUnknown rfl rfl rfl (by decide +kernel) ⟨Nat.le_of_ble_eq_true rfl, Nat.le_of_ble_eq_true rfl⟩) ⟨rPk_blind, va_recv hK hP (ci := 4) (q0 := 0) rfl rfl, rPk_at (hK.sub (tys' := [(cI, .int)]) [0] rfl) (hP.sub (ws' := (kW0 cI h a held p_)) [0] rfl) hN⟩ rfl rfl hl.1 rfl (lv_room (Nat.le_of_ble_eq_true rfl)) dX6_same_2 ⟨Nat.zero_le _, Nat.zero_le _⟩) ?_
  obtain ⟨k16, e_k16, hF⟩ := nm_ex hF
  have hk16 : ∀  (ls : Array Slot), lv_has ls 3 [] → k16 = some ro → W p l e rmX6_same s m ([.ref h, .int p0, .int p1] : List Value).toArray below meth c s.heap [] 0 0 Q (F0 m 16 ls []) := by
    intro ls hl hF
    have hF := ka0 e_k16 hF
    refine lv_ldc (v := (-100001)) hx hb hown (hlk (.constant RX6 67 (-100001)) (by decide +kernel)) dX6_same_16 ?_
    have q0 := sm1 hF
    refine W_Qe hQ ?_
    exact W.iret hx hb hr (fun t ht hW => ⟨_, rfl, q0, ht⟩) (fun _ h9 => by cases h9) dX6_same_18
  clear e_k16
  refine lv_if_ne (tgt := 16) hx hb dX6_same_5 (by decide) (fun c0 => ?_) (fun c0 => ?_)
  · have hF := if_f hF c0
    exact hk16 ls (lv_sub hl [] rfl) hF
  · have hF := if_t hF c0
    refine lv_aload_n hx hb dX6_same_8 rfl (lv_at hl 0 rfl) ?_
    refine lv_iload_n hx hb dX6_same_9 rfl (lv_at hl 2 rfl) ?_
    obtain ⟨r_2, hc, hF⟩ := bd1_of hF
    refine rc_i (va_runV (As := [.int p1]) (rest := []) ⟨hx, hb, hml, hown, hts⟩ (c_X6_isUnknown l dC dI cI h a held p_ p1 r_2 hc) (cwV 1 hts g_X6_same_X6_isUnknown rfl rfl rfl (by decide +kernel) ⟨Nat.le_of_ble_eq_true rfl, Nat.le_of_ble_eq_true rfl⟩) ⟨rPk_blind, va_recv hK hP (ci := 4) (q0 := 0) rfl rfl, rPk_at (hK.sub (tys' := [(cI, .int)]) [0] rfl) (hP.sub (ws' := (kW0 cI h a held p_)) [0] rfl) hN⟩ rfl rfl hl.1 rfl (lv_room (Nat.le_of_ble_eq_true rfl)) dX6_same_10 ⟨Nat.zero_le _, Nat.zero_le _⟩) ?_
    refine lv_if_eq (tgt := 19) hx hb dX6_same_13 (by decide) (fun c0 => ?_) (fun c0 => ?_)
    · have hF := if_t hF c0
      refine lv_aload_n hx hb dX6_same_19 rfl (lv_at hl 0 rfl) ?_
      refine va_get (D := (dC, dI)) (ci := 4) (v := .ref (a 1)) (C := RX6) (T := TX6) (N := 8) hx hb hts hinX6 hown hK hP 0 rfl rfl 0 (by decide) hf_11 (fun _ h9 => h9) rfl dX6_same_20 ?_
      refine lv_iload_n hx hb dX6_same_23 rfl (lv_at hl 1 rfl) ?_
      obtain ⟨hg_3, hF⟩ := ck_of hF
      refine kc_aald (y := fo) hx hb hK hP 1 1 rfl rfl (hfo hg_3) hg_3 dX6_same_24 ?_
      refine va_getN (D := (dC, dI)) (ci := 1) (v := .ref (ga 2)) (C := RX1) (T := TX1) (N := 6) hx hb hts hinX1 hown hK hP 2 rfl rfl 1 (by decide) hf_79 (fun _ h9 => h9) rfl dX6_same_25 ?_
      refine lv_aload_n hx hb dX6_same_28 rfl (lv_at hl 0 rfl) ?_
      refine va_get (D := (dC, dI)) (ci := 4) (v := .ref (a 1)) (C := RX6) (T := TX6) (N := 8) hx hb hts hinX6 hown hK hP 0 rfl rfl 0 (by decide) hf_11 (fun _ h9 => h9) rfl dX6_same_29 ?_
      refine lv_iload_n hx hb dX6_same_32 rfl (lv_at hl 2 rfl) ?_
      obtain ⟨hg_4, hF⟩ := ck_of hF
      refine kc_aald (y := fo2) hx hb hK hP 1 1 rfl rfl (hfo2 hg_4) hg_4 dX6_same_33 ?_
      refine va_getN (D := (dC, dI)) (ci := 1) (v := .ref (gb 2)) (C := RX1) (T := TX1) (N := 6) hx hb hts hinX1 hown hK hP 4 rfl rfl 1 (by decide) hf_79 (fun _ h9 => h9) rfl dX6_same_34 ?_
      obtain ⟨r_5, hc, hF⟩ := bd1_of hF
      refine rc_i (va_runSN (As := [.ref (ga 2), .ref (gb 2)]) (rest := []) ⟨hx, hb, hml, hown, hts⟩ (c_X4_areAlike l dC dI cI (ga 2) (gb 2) fu f_least f2_least  r_5 hc) ⟨va_cnB 2 hts g_X6_same_X4_areAlike rfl rfl rfl (hN.2 (RX6, 95, yX4_areAlike, "KinForms") (by decide +kernel)) (hlk (.initialized RX4) (by decide +kernel)) (by decide +kernel) ⟨Nat.le_of_ble_eq_true rfl, Nat.le_of_ble_eq_true rfl⟩, hlk (.static yX4_areAlike) (by decide +kernel), trivial⟩ ⟨rPk_blind, rPk_at (hK.sub (tys' := [(cI, .int)]) [0] rfl) (hP.sub (ws' := (aW2 cI (ga 2) (gb 2) f_least f2_least)) [3, 5] rfl) hN⟩ rfl rfl hl.1 rfl (lv_room (Nat.le_of_ble_eq_true rfl)) dX6_same_37 ⟨Nat.zero_le _, Nat.zero_le _⟩) ?_
      obtain ⟨k48, e_k48, hF⟩ := nm_ex hF
      have hk48 : ∀ (s_6 : Int32) (ls : Array Slot), lv_has ls 3 [] → k48 s_6 = some ro → W p l e rmX6_same s m ([.ref h, .int p0, .int p1] : List Value).toArray below meth c s.heap [] 0 0 Q (F0 m 48 ls [.int s_6]) := by
        intro s_6 ls hl hF
        have hF := ka1 e_k48 hF
        have q0 := sm1 hF
        refine W_Qe hQ ?_
        exact W.iret hx hb hr (fun t ht hW => ⟨_, rfl, q0, ht⟩) (fun _ h9 => by cases h9) dX6_same_48
      clear e_k48
      refine lv_if_eq (tgt := 47) hx hb dX6_same_40 (by decide) (fun c0 => ?_) (fun c0 => ?_)
      · have hF := if_t hF c0
        refine lv_iconst (v := 0) hx hb dX6_same_47 (by decide) ?_
        exact hk48 (0 : Int32) ls (lv_sub hl [] rfl) hF
      · have hF := if_f hF c0
        refine lv_iconst (v := 1) hx hb dX6_same_43 (by decide) ?_
        refine lv_goto (tgt := 48) hx hb dX6_same_44 (by decide) ?_
        exact hk48 (1 : Int32) ls (lv_sub hl [] rfl) hF
    · have hF := if_f hF c0
      exact hk16 ls (lv_sub hl [] rfl) hF
def fX6_table (held : Int32) (f_tab : Nat → Int32) (p0 : Int32) (p1 : Int32) : Option (Int32) :=
  bd1 (fX6_isUnknown held p0) (fun (r_1 : Int32) => if r_1 = 0 then (bd1 (fX6_isOutside p1 (0 : Int32) (8 : Int32)) (fun (r_2 : Int32) => nm (fun (s_4 : Int32) => some s_4) (fun (k37 : (Int32) → Option (Int32)) => if r_2 = 0 then (if okI p0 12 then if okI p1 9 then (k37 (f_tab p1.toNatClampNeg)) else none else none) else ((k37 (-100002 : Int32)))))) else (some (-100001 : Int32)))
def lkX6_table : List Cond := [.constant RX6 57 (-100002), .constant RX6 67 (-100001), .fieldLink RX6 11 "KinForms" "forms" "[LKinForms$Form;"]
def vX6_table : List Cond := .code yX6_table cX6_table 3 (some .int) :: (lkX6_table ++ (wsX60 ++ (wsX10 ++ (wsV RX6 63 RX6 yX6_isUnknown vX6_isUnknown ++ (va_wsS RX6 69 yX6_isOutside vX6_isOutside ++ ([]))))))
theorem q_X6_table : ∀ w ∈ vX6_table, goodWord w = true := gd_cons rfl (gd_app (by decide +kernel) (gd_app q_wsX60 (gd_app q_wsX10 (gd_app (gd_V q_X6_isUnknown) (gd_app (gd_S q_X6_isOutside) gd_nil)))))
theorem g_X6_table_X6_isUnknown : GoodIn vX6_table (wsV RX6 63 RX6 yX6_isUnknown vX6_isUnknown) := gi_of (fun w h => List.mem_cons_of_mem _ (List.mem_append_right _ (List.mem_append_right _ (List.mem_append_right _ (List.mem_append_left _ h))))) (gd_V q_X6_isUnknown)
theorem g_X6_table_X6_isOutside : GoodIn vX6_table (va_wsS RX6 69 yX6_isOutside vX6_isOutside) := gi_of (fun w h => List.mem_cons_of_mem _ (List.mem_append_right _ (List.mem_append_right _ (List.mem_append_right _ (List.mem_append_right _ (List.mem_append_left _ h)))))) (gd_S q_X6_isOutside)
abbrev rmX6_table : Room := { frames := 1, cells := 0, slots := 0, locals := 22 }
set_option maxHeartbeats 4000000 in
set_option maxRecDepth 100000 in
theorem c_X6_table (l : Launch) (dC : Nat → ClassId) (dI : Nat → Nat → Nat) (cI : ClassId) (cF : ClassId) (h : Nat) (a : Nat → Nat) (fo : Nat) (ga : Nat → Nat) (held : Int32) (p_ : Int32) (fr : Nat → Option Nat) (f_disc : Int32) (f_turns : Int32) (f_tab : Nat → Int32) (p0 : Int32) (p1 : Int32) (ro : Int32) (hfo : okI p0 12 → fr p0.toNatClampNeg = some fo) (hF : fX6_table held f_tab p0 p1 = some ro) : Met l yX6_table vX6_table rmX6_table (va_Pc [.ref h, .int p0, .int p1] (rPk (dC, dI) vwCl (taW cI cF h a fo ga held p_ fr f_disc f_turns f_tab) [(cI, .int), (cF, .object "KinForms$Form")])) (vp_Si (fun x => x = ro)) 0 0 (fun _ => False) := by
  refine Met.ofW (cc := cX6_table) (maxL := 3) (ret := (some .int)) (by decide) rfl ?_
  intro p e s m args below meth c s₁ B hml hv
  obtain ⟨rfl, hP, hK, hN⟩ := hv
  have hx := B.exec
  have hb := B.bytes
  have hr := B.returns
  have hts := atoms_spec (ws := vX6_table) B.pre
  have hlk : ∀ w ∈ lkX6_table, w.before _ s = true := fun w h => hts w (List.mem_cons_of_mem _ (List.mem_append_left _ h))
  have hown : s.vm.findClass RX6 = some m.cls := findClass_of_methodNamed B.named
  have hlocks := B.notSynchronized
  have hinX6 : ∀ w ∈ wsX60, w ∈ vX6_table := fun w h => List.mem_cons_of_mem _ (List.mem_append_right _ (List.mem_append_left _ h))
  have hinX1 : ∀ w ∈ wsX10, w ∈ vX6_table := fun w h => List.mem_cons_of_mem _ (List.mem_append_right _ (List.mem_append_right _ (List.mem_append_left _ h)))
  have hf_11 := hlk (.fieldLink RX6 11 "KinForms" "forms" "[LKinForms$Form;") (by decide +kernel)
  have hf_99 := va_Nw.use (A := ([.ref h, .int p0, .int p1] : List Value).toArray) rfl (hN.1 (RX6, 99, "KinForms$Form", "toLeast", "[I", "KinForms") (by decide +kernel))
  have hl := lv_entry ([.ref h, .int p0, .int p1] : List Value) (n := 3) (Nat.le_of_ble_eq_true rfl)
  rw [lg_entry_eq]
  generalize (lg_sl ([.ref h, .int p0, .int p1] : List Value) ++ List.replicate (3 - (lg_sl ([.ref h, .int p0, .int p1] : List Value)).length) Slot.unset).toArray = ls at hl ⊢
  have hl : lv_has ls 3 [(0, .ref h), (1, .int p0), (2, .int p1)] := hl
  unfold fX6_table at hF
  refine W_Q (fun Q hQ => ?_)
  refine lv_aload_n hx hb dX6_table_0 rfl (lv_at hl 0 rfl) ?_
  refine lv_iload_n hx hb dX6_table_1 rfl (lv_at hl 1 rfl) ?_
  obtain ⟨r_1, hc, hF⟩ := bd1_of hF
  refine rc_i (va_runV (As := [.int p0]) (rest := []) ⟨hx, hb, hml, hown, hts⟩ (c_X6_isUnknown l dC dI cI h a held p_ p0 r_1 hc) (cwV 1 hts g_X6_table_X6_isUnknown rfl rfl rfl (by decide +kernel) ⟨Nat.le_of_ble_eq_true rfl, Nat.le_of_ble_eq_true rfl⟩) ⟨rPk_blind, va_recv hK hP (ci := 4) (q0 := 0) rfl rfl, rPk_at (hK.sub (tys' := [(cI, .int)]) [0] rfl) (hP.sub (ws' := (kW0 cI h a held p_)) [0] rfl) hN⟩ rfl rfl hl.1 rfl (lv_room (Nat.le_of_ble_eq_true rfl)) dX6_table_2 ⟨Nat.zero_le _, Nat.zero_le _⟩) ?_
  refine lv_if_eq (tgt := 11) hx hb dX6_table_5 (by decide) (fun c0 => ?_) (fun c0 => ?_)
  · have hF := if_t hF c0
    refine lv_iload_n hx hb dX6_table_11 rfl (lv_at hl 2 rfl) ?_
    refine lv_iconst (v := 0) hx hb dX6_table_12 (by decide) ?_
    refine lv_bipush (v := (8)) hx hb dX6_table_13 (by decide) ?_
    obtain ⟨r_2, hc, hF⟩ := bd1_of hF
    refine rc_i (va_runS (As := [.int p1, .int (0 : Int32), .int (8 : Int32)]) (rest := []) ⟨hx, hb, hml, hown, hts⟩ (c_X6_isOutside l p1 (0 : Int32) (8 : Int32) r_2 hc) (va_cwS 3 hts g_X6_table_X6_isOutside rfl rfl rfl (by decide +kernel) ⟨Nat.le_of_ble_eq_true rfl, Nat.le_of_ble_eq_true rfl⟩) ⟨tPc_blind, tPc_at⟩ rfl rfl hl.1 rfl (lv_room (Nat.le_of_ble_eq_true rfl)) dX6_table_15 ⟨Nat.zero_le _, Nat.zero_le _⟩) ?_
    obtain ⟨k37, e_k37, hF⟩ := nm_ex hF
    have hk37 : ∀ (s_4 : Int32) (ls : Array Slot), lv_has ls 3 [] → k37 s_4 = some ro → W p l e rmX6_table s m ([.ref h, .int p0, .int p1] : List Value).toArray below meth c s.heap [] 0 0 Q (F0 m 37 ls [.int s_4]) := by
      intro s_4 ls hl hF
      have hF := ka1 e_k37 hF
      have q0 := sm1 hF
      refine W_Qe hQ ?_
      exact W.iret hx hb hr (fun t ht hW => ⟨_, rfl, q0, ht⟩) (fun _ h9 => by cases h9) dX6_table_37
    clear e_k37
    refine lv_if_eq (tgt := 26) hx hb dX6_table_18 (by decide) (fun c0 => ?_) (fun c0 => ?_)
    · have hF := if_t hF c0
      refine lv_aload_n hx hb dX6_table_26 rfl (lv_at hl 0 rfl) ?_
      refine va_get (D := (dC, dI)) (ci := 4) (v := .ref (a 1)) (C := RX6) (T := TX6) (N := 8) hx hb hts hinX6 hown hK hP 0 rfl rfl 0 (by decide) hf_11 (fun _ h9 => h9) rfl dX6_table_27 ?_
      refine lv_iload_n hx hb dX6_table_30 rfl (lv_at hl 1 rfl) ?_
      obtain ⟨hg_3, hF⟩ := ck_of hF
      refine kc_aald (y := fo) hx hb hK hP 1 1 rfl rfl (hfo hg_3) hg_3 dX6_table_31 ?_
      refine va_getN (D := (dC, dI)) (ci := 1) (v := .ref (ga 3)) (C := RX1) (T := TX1) (N := 6) hx hb hts hinX1 hown hK hP 2 rfl rfl 2 (by decide) hf_99 (fun _ h9 => h9) rfl dX6_table_32 ?_
      refine lv_iload_n hx hb dX6_table_35 rfl (lv_at hl 2 rfl) ?_
      obtain ⟨hi, hF⟩ := ck_of hF
      refine va_iald hx hb hK hP 3 0 rfl rfl hi dX6_table_36 ?_
      exact hk37 (f_tab p1.toNatClampNeg) ls (lv_sub hl [] rfl) hF
    · have hF := if_f hF c0
      refine lv_ldc (v := (-100002)) hx hb hown (hlk (.constant RX6 57 (-100002)) (by decide +kernel)) dX6_table_21 ?_
      refine lv_goto (tgt := 37) hx hb dX6_table_23 (by decide) ?_
      exact hk37 (-100002 : Int32) ls (lv_sub hl [] rfl) hF
  · have hF := if_f hF c0
    refine lv_ldc (v := (-100001)) hx hb hown (hlk (.constant RX6 67 (-100001)) (by decide +kernel)) dX6_table_8 ?_
    have q0 := sm1 hF
    refine W_Qe hQ ?_
    exact W.iret hx hb hr (fun t ht hW => ⟨_, rfl, q0, ht⟩) (fun _ h9 => by cases h9) dX6_table_10
def fX6_count (held : Int32)  : Option (Int32) :=
  some held
def lkX6_count : List Cond := [.fieldLink RX6 40 "KinForms" "held" "I"]
def vX6_count : List Cond := .code yX6_count cX6_count 1 (some .int) :: (lkX6_count ++ (wsX60 ++ ([])))
theorem q_X6_count : ∀ w ∈ vX6_count, goodWord w = true := gd_cons rfl (gd_app (by decide +kernel) (gd_app q_wsX60 gd_nil))
abbrev rmX6_count : Room := { frames := 0, cells := 0, slots := 0, locals := 0 }
set_option maxHeartbeats 4000000 in
set_option maxRecDepth 100000 in
theorem c_X6_count (l : Launch) (dC : Nat → ClassId) (dI : Nat → Nat → Nat) (cI : ClassId) (h : Nat) (a : Nat → Nat) (held : Int32) (p_ : Int32)  (ro : Int32) (hF : fX6_count held = some ro) : Met l yX6_count vX6_count rmX6_count (va_Pc [.ref h] (rPk (dC, dI) vwCl (kW0 cI h a held p_) [(cI, .int)])) (vp_Si (fun x => x = ro)) 0 0 (fun _ => False) := by
  refine Met.ofW (cc := cX6_count) (maxL := 1) (ret := (some .int)) (by decide) rfl ?_
  intro p e s m args below meth c s₁ B hml hv
  obtain ⟨rfl, hP, hK, hN⟩ := hv
  have hx := B.exec
  have hb := B.bytes
  have hr := B.returns
  have hts := atoms_spec (ws := vX6_count) B.pre
  have hlk : ∀ w ∈ lkX6_count, w.before _ s = true := fun w h => hts w (List.mem_cons_of_mem _ (List.mem_append_left _ h))
  have hown : s.vm.findClass RX6 = some m.cls := findClass_of_methodNamed B.named
  have hlocks := B.notSynchronized
  have hinX6 : ∀ w ∈ wsX60, w ∈ vX6_count := fun w h => List.mem_cons_of_mem _ (List.mem_append_right _ (List.mem_append_left _ h))
  have hf_40 := hlk (.fieldLink RX6 40 "KinForms" "held" "I") (by decide +kernel)
  have hl := lv_entry ([.ref h] : List Value) (n := 1) (Nat.le_of_ble_eq_true rfl)
  rw [lg_entry_eq]
  generalize (lg_sl ([.ref h] : List Value) ++ List.replicate (1 - (lg_sl ([.ref h] : List Value)).length) Slot.unset).toArray = ls at hl ⊢
  have hl : lv_has ls 1 [(0, .ref h)] := hl
  unfold fX6_count at hF
  refine W_Q (fun Q hQ => ?_)
  refine lv_aload_n hx hb dX6_count_0 rfl (lv_at hl 0 rfl) ?_
  refine va_get (D := (dC, dI)) (ci := 4) (v := .int held) (C := RX6) (T := TX6) (N := 8) hx hb hts hinX6 hown hK hP 0 rfl rfl 6 (by decide) hf_40 (fun _ h9 => h9) rfl dX6_count_1 ?_
  have q0 := sm1 hF
  refine W_Qe hQ ?_
  exact W.iret hx hb hr (fun t ht hW => ⟨_, rfl, q0, ht⟩) (fun _ h9 => by cases h9) dX6_count_4
def fX6_prime (p_ : Int32) (p0 : Int32) : Option (Int32 × (Int32)) :=
  nm (some (p_, p0)) (fun (k19 : Option (Int32 × (Int32))) => if p0 = (3 : Int32) then ((k19)) else (if p0 = (5 : Int32) then ((k19)) else (if p0 = (7 : Int32) then ((k19)) else (some ((-100002 : Int32), p_)))))
def lkX6_prime : List Cond := [.constant RX6 57 (-100002), .fieldLink RX6 44 "KinForms" "p" "I"]
def vX6_prime : List Cond := .code yX6_prime cX6_prime 3 (some .int) :: (lkX6_prime ++ (wsX60 ++ ([])))
theorem q_X6_prime : ∀ w ∈ vX6_prime, goodWord w = true := gd_cons rfl (gd_app (by decide +kernel) (gd_app q_wsX60 gd_nil))
abbrev rmX6_prime : Room := { frames := 0, cells := 0, slots := 0, locals := 0 }
set_option maxHeartbeats 4000000 in
set_option maxRecDepth 100000 in
theorem c_X6_prime (l : Launch) (dC : Nat → ClassId) (dI : Nat → Nat → Nat) (cI : ClassId) (h : Nat) (a : Nat → Nat) (sz : Nat) (held : Int32) (p_ : Int32) (p0 : Int32) (ro : Int32) (o_p_ : Int32) (hF : fX6_prime p_ p0 = some (ro, o_p_)) : Met l yX6_prime vX6_prime rmX6_prime (va_Pc [.ref h, .int p0] (mPk (dC, dI) vwCl (kW0 cI h a held p_) [(cI, .int)] sz)) (va_Qi (fun x (_ : Unit) => x = ro) (mPo (dC, dI) vwCl (kW0 cI h a held o_p_) [(cI, .int)] (va_A (kW0 cI h a held p_) sz)) (va_A (kW0 cI h a held p_) sz)) 0 0 (va_A (kW0 cI h a held p_) sz) := by
  refine Met.ofW (cc := cX6_prime) (maxL := 3) (ret := (some .int)) (by decide) rfl ?_
  intro p e s m args below meth c s₁ B hml hv
  obtain ⟨rfl, hsz, hP, hK, hD0, hN⟩ := hv
  have hx := B.exec
  have hb := B.bytes
  have hr := B.returns
  have hts := atoms_spec (ws := vX6_prime) B.pre
  have hlk : ∀ w ∈ lkX6_prime, w.before _ s = true := fun w h => hts w (List.mem_cons_of_mem _ (List.mem_append_left _ h))
  have hown : s.vm.findClass RX6 = some m.cls := findClass_of_methodNamed B.named
  have hlocks := B.notSynchronized
  subst hsz
  have hD := hD0.self (sz := s.heap.size)
  generalize hAe : va_A (kW0 cI h a held p_) s.heap.size = A at hD ⊢
  have hA : ∀ q : Nat, s.heap.size ≤ q → A q := fun q h => by rw [← hAe]; exact Or.inr h
  have hS : va_S A s.heap s.heap [] := va_S.rf
  have hinX6 : ∀ w ∈ wsX60, w ∈ vX6_prime := fun w h => List.mem_cons_of_mem _ (List.mem_append_right _ (List.mem_append_left _ h))
  have hf_44 := hlk (.fieldLink RX6 44 "KinForms" "p" "I") (by decide +kernel)
  have hl := lv_entry ([.ref h, .int p0] : List Value) (n := 3) (Nat.le_of_ble_eq_true rfl)
  rw [lg_entry_eq]
  generalize (lg_sl ([.ref h, .int p0] : List Value) ++ List.replicate (3 - (lg_sl ([.ref h, .int p0] : List Value)).length) Slot.unset).toArray = ls at hl ⊢
  have hl : lv_has ls 3 [(0, .ref h), (1, .int p0)] := hl
  unfold fX6_prime at hF
  refine W_Q (fun Q hQ => ?_)
  have hP : va_P (dC, dI) vwCl (kW0 cI h a held p_) s.heap := hP
  refine W_HL (fun H locs eH eL => ?_)
  rw [← eH] at hP
  have hS : va_S A s.heap H locs := by rw [eH, eL]; exact hS
  refine lv_iload_n hx hb dX6_prime_0 rfl (lv_at hl 1 rfl) ?_
  refine lv_iconst (v := 3) hx hb dX6_prime_1 (by decide) ?_
  obtain ⟨k19, e_k19, hF⟩ := nm_ex hF
  have hk19 : ∀  (H : Heap) (locs : List Loc) (ls : Array Slot), va_P (dC, dI) vwCl (kW0 cI h a held p_) H → va_D A (kW0 cI h a held p_) → va_S A s.heap H locs → lv_has ls 3 [(0, .ref h), (1, .int p0)] → k19 = some (ro, o_p_) → W p l e rmX6_prime s m ([.ref h, .int p0] : List Value).toArray below meth c H locs 0 0 Q (F0 m 19 ls []) := by
    intro H locs ls hP hD hS hl hF
    have hF := ka0 e_k19 hF
    refine lv_aload_n hx hb dX6_prime_19 rfl (lv_at hl 0 rfl) ?_
    refine va_get (D := (dC, dI)) (ci := 4) (v := .int p_) (C := RX6) (T := TX6) (N := 8) hx hb hts hinX6 hown hK hP 0 rfl rfl 7 (by decide) hf_44 (fun _ h9 => h9) rfl dX6_prime_20 ?_
    refine lv_istore_n (lv' := [(2, .int p_), (0, .ref h), (1, .int p0)]) hx hb dX6_prime_23 rfl hl (by decide) rfl (fun ls hl => ?_)
    refine lv_aload_n hx hb dX6_prime_24 rfl (lv_at hl 1 rfl) ?_
    refine lv_iload_n hx hb dX6_prime_25 rfl (lv_at hl 2 rfl) ?_
    refine va_put (D := (dC, dI)) (ci := 4) (v := .int p0) (ty := .int) (C := RX6) (T := TX6) (N := 8) hx hb hts hinX6 tyX6 tyX6_ok nmX6 hown hK hP hD hS 0 rfl rfl 7 (by decide) hf_44 (fun _ h9 => h9) rfl (by decide +kernel) rfl rfl (Nat.le_of_ble_eq_true rfl) dX6_prime_26 (fun H locs hP hD hS => ?_)
    have hP : va_P (dC, dI) vwCl (kW0 cI h a held p0) H := hP
    have hD : va_D A (kW0 cI h a held p0) := hD
    refine lv_iload_n hx hb dX6_prime_29 rfl (lv_at hl 0 rfl) ?_
    obtain ⟨q0, q1⟩ := sm2 hF
    have hP : va_P (dC, dI) vwCl (kW0 cI h a held o_p_) H := by rw [← q1]; exact hP
    have hD : va_D A (kW0 cI h a held o_p_) := by rw [← q1]; exact hD
    refine W_Qe hQ ?_
    exact W.iret hx hb hr (fun t ht hW => ⟨⟨p_, (), rfl, q0, by rw [ht]; exact hP, va_K.moved hW.alike hK, hD⟩, hS.F ht⟩) hS.2.2 dX6_prime_30
  clear e_k19
  refine lv_icmp_eq (tgt := 19) hx hb dX6_prime_2 (by decide) (fun c0 => ?_) (fun c0 => ?_)
  · have hF := if_t hF c0
    exact hk19 H locs ls hP hD hS (lv_sub hl [0, 1] rfl) hF
  · have hF := if_f hF c0
    refine lv_iload_n hx hb dX6_prime_5 rfl (lv_at hl 1 rfl) ?_
    refine lv_iconst (v := 5) hx hb dX6_prime_6 (by decide) ?_
    refine lv_icmp_eq (tgt := 19) hx hb dX6_prime_7 (by decide) (fun c0 => ?_) (fun c0 => ?_)
    · have hF := if_t hF c0
      exact hk19 H locs ls hP hD hS (lv_sub hl [0, 1] rfl) hF
    · have hF := if_f hF c0
      refine lv_iload_n hx hb dX6_prime_10 rfl (lv_at hl 1 rfl) ?_
      refine lv_bipush (v := (7)) hx hb dX6_prime_11 (by decide) ?_
      refine lv_icmp_eq (tgt := 19) hx hb dX6_prime_13 (by decide) (fun c0 => ?_) (fun c0 => ?_)
      · have hF := if_t hF c0
        exact hk19 H locs ls hP hD hS (lv_sub hl [0, 1] rfl) hF
      · have hF := if_f hF c0
        refine lv_ldc (v := (-100002)) hx hb hown (hlk (.constant RX6 57 (-100002)) (by decide +kernel)) dX6_prime_16 ?_
        obtain ⟨q0, q1⟩ := sm2 hF
        have hP : va_P (dC, dI) vwCl (kW0 cI h a held o_p_) H := by rw [← q1]; exact hP
        have hD : va_D A (kW0 cI h a held o_p_) := by rw [← q1]; exact hD
        refine W_Qe hQ ?_
        exact W.iret hx hb hr (fun t ht hW => ⟨⟨(-100002 : Int32), (), rfl, q0, by rw [ht]; exact hP, va_K.moved hW.alike hK, hD⟩, hS.F ht⟩) hS.2.2 dX6_prime_18
