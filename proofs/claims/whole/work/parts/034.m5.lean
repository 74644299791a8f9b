def fX7_fits  (p0 : Int32) (p1 : Int32) (p2 : Int32) (p3 : Int32) (p4 : Int32) (p5 : Int32) : Option (Int32) :=
  bd1 (fX7_in p0.toInt64 (1 : Int64) (12 : Int64)) (fun (r_1 : Int32) => nm (fun (s_7 : Int32) => nm (fun (s_8 : Int32) => if s_8 = 0 ∨ s_8 = 1 then some s_8 else none) (fun (k151 : (Int32) → Option (Int32)) => nm ((k151 (0 : Int32))) (fun (k150 : Option (Int32)) => if s_7 = 0 then ((k150)) else (if ((((4 : Int32) * p0) * p1) - (p5 * p5)) ≤ 0 then ((k150)) else (if ((((((((4 : Int32) * p0) * p1) * p2) + ((p3 * p4) * p5)) - ((p0 * p3) * p3)) - ((p1 * p4) * p4)) - ((p2 * p5) * p5)) ≤ 0 then ((k150)) else ((k151 (1 : Int32)))))))) (fun (k85 : (Int32) → Option (Int32)) => nm ((k85 (0 : Int32))) (fun (k84 : Option (Int32)) => if r_1 = 0 then ((k84)) else (bd1 (fX7_in p1.toInt64 (1 : Int64) (12 : Int64)) (fun (r_2 : Int32) => if r_2 = 0 then ((k84)) else (bd1 (fX7_in p2.toInt64 (1 : Int64) (12 : Int64)) (fun (r_3 : Int32) => if r_3 = 0 then ((k84)) else (bd1 (fX7_in p3.toInt64 (-12 : Int64) (12 : Int64)) (fun (r_4 : Int32) => if r_4 = 0 then ((k84)) else (bd1 (fX7_in p4.toInt64 (-12 : Int64) (12 : Int64)) (fun (r_5 : Int32) => if r_5 = 0 then ((k84)) else (bd1 (fX7_in p5.toInt64 (-12 : Int64) (12 : Int64)) (fun (r_6 : Int32) => if r_6 = 0 then ((k84)) else ((k85 (1 : Int32))))))))))))))))
def lkX7_fits : List Cond := [.constantLong RX7 145 (12), .constantLong RX7 151 (-12)]
def vX7_fits : List Cond := .code yX7_fits cX7_fits 7 (some .boolean) :: (lkX7_fits ++ (va_wsS RX7 147 yX7_in vX7_in ++ ([])))
theorem q_X7_fits : ∀ w ∈ vX7_fits, goodWord w = true := gd_cons rfl (gd_app (by decide +kernel) (gd_app (gd_S q_X7_in) gd_nil))
theorem g_X7_fits_X7_in : GoodIn vX7_fits (va_wsS RX7 147 yX7_in vX7_in) := gi_of (fun w h => List.mem_cons_of_mem _ (List.mem_append_right _ (List.mem_append_left _ h))) (gd_S q_X7_in)
abbrev rmX7_fits : Room := { frames := 1, cells := 0, slots := 0, locals := 25 }
set_option maxHeartbeats 4000000 in
set_option maxRecDepth 100000 in
theorem c_X7_fits (l : Launch) (p0 : Int32) (p1 : Int32) (p2 : Int32) (p3 : Int32) (p4 : Int32) (p5 : Int32) (ro : Int32) (hF : fX7_fits p0 p1 p2 p3 p4 p5 = some ro) : Met l yX7_fits vX7_fits rmX7_fits (va_Pc [.int p0, .int p1, .int p2, .int p3, .int p4, .int p5] (fun _ => True)) (vp_Si (fun x => x = ro)) 0 0 (fun _ => False) := by
  refine Met.ofW (cc := cX7_fits) (maxL := 7) (ret := (some .boolean)) (by decide) rfl ?_
  intro p e s m args below meth c s₁ B hml hv
  obtain ⟨rfl, -⟩ := hv
  have hx := B.exec
  have hb := B.bytes
  have hr := B.returns
  have hts := atoms_spec (ws := vX7_fits) B.pre
  have hlk : ∀ w ∈ lkX7_fits, w.before _ s = true := fun w h => hts w (List.mem_cons_of_mem _ (List.mem_append_left _ h))
  have hown : s.vm.findClass RX7 = some m.cls := findClass_of_methodNamed B.named
  have hlocks := B.notSynchronized
  have hl := lv_entry ([.int p0, .int p1, .int p2, .int p3, .int p4, .int p5] : List Value) (n := 7) (Nat.le_of_ble_eq_true rfl)
  rw [lg_entry_eq]
  generalize (lg_sl ([.int p0, .int p1, .int p2, .int p3, .int p4, .int p5] : List Value) ++ List.replicate (7 - (lg_sl ([.int p0, .int p1, .int p2, .int p3, .int p4, .int p5] : List Value)).length) Slot.unset).toArray = ls at hl ⊢
  have hl : lv_has ls 7 [(0, .int p0), (1, .int p1), (2, .int p2), (3, .int p3), (4, .int p4), (5, .int p5)] := hl
  unfold fX7_fits at hF
  refine W_Q (fun Q hQ => ?_)
  refine lv_iload_n hx hb dX7_fits_0 rfl (lv_at hl 0 rfl) ?_
  refine lv_i2l (v := p0.toInt64) hx hb dX7_fits_1 rfl ?_
  refine lv_lconst (v := 1) hx hb dX7_fits_2 (by decide) ?_
  refine lv_ldc2 (v := (12)) hx hb hown (hlk (.constantLong RX7 145 (12)) (by decide +kernel)) dX7_fits_3 ?_
  obtain ⟨r_1, hc, hF⟩ := bd1_of hF
  refine rc_i (va_runS (As := [.long p0.toInt64, .long (1 : Int64), .long (12 : Int64)]) (rest := []) ⟨hx, hb, hml, hown, hts⟩ (c_X7_in l p0.toInt64 (1 : Int64) (12 : Int64) r_1 hc) (va_cwS 3 hts g_X7_fits_X7_in rfl rfl rfl (by decide +kernel) ⟨Nat.le_of_ble_eq_true rfl, Nat.le_of_ble_eq_true rfl⟩) ⟨tPc_blind, tPc_at⟩ rfl rfl hl.1 rfl (lv_room (Nat.le_of_ble_eq_true rfl)) dX7_fits_6 ⟨Nat.zero_le _, Nat.zero_le _⟩) ?_
  obtain ⟨k85, e_k85, hF⟩ := nm_ex hF
  have hk85 : ∀ (s_7 : Int32) (ls : Array Slot), lv_has ls 7 [(0, .int p0), (1, .int p1), (2, .int p2), (3, .int p3), (4, .int p4), (5, .int p5)] → k85 s_7 = some ro → W p l e rmX7_fits s m ([.int p0, .int p1, .int p2, .int p3, .int p4, .int p5] : List Value).toArray below meth c s.heap [] 0 0 Q (F0 m 85 ls [.int s_7]) := by
    intro s_7 ls hl hF
    have hF := ka1 e_k85 hF
    refine lv_istore (lv' := [(6, .int s_7), (0, .int p0), (1, .int p1), (2, .int p2), (3, .int p3), (4, .int p4), (5, .int p5)]) hx hb dX7_fits_85 hl (by decide) rfl (fun ls hl => ?_)
    refine lv_iload hx hb dX7_fits_87 (lv_at hl 0 rfl) ?_
    obtain ⟨k151, e_k151, hF⟩ := nm_ex hF
    have hk151 : ∀ (s_8 : Int32) (ls : Array Slot), lv_has ls 7 [] → k151 s_8 = some ro → W p l e rmX7_fits s m ([.int p0, .int p1, .int p2, .int p3, .int p4, .int p5] : List Value).toArray below meth c s.heap [] 0 0 Q (F0 m 151 ls [.int s_8]) := by
      intro s_8 ls hl hF
      have hF := ka1 e_k151 hF
      obtain ⟨hz, hF⟩ := ck_of hF
      have q0 := sm1 hF
      refine W_Qe hQ ?_
      exact W.zret (ty := .boolean) hx hb hr (nz_bool hz) (fun t ht hW => ⟨_, rfl, q0, ht⟩) (fun _ h9 => by cases h9) dX7_fits_151
    clear e_k151
    obtain ⟨k150, e_k150, hF⟩ := nm_ex hF
    have hk150 : ∀  (ls : Array Slot), lv_has ls 7 [] → k150 = some ro → W p l e rmX7_fits s m ([.int p0, .int p1, .int p2, .int p3, .int p4, .int p5] : List Value).toArray below meth c s.heap [] 0 0 Q (F0 m 150 ls []) := by
      intro ls hl hF
      have hF := ka0 e_k150 hF
      refine lv_iconst (v := 0) hx hb dX7_fits_150 (by decide) ?_
      exact hk151 (0 : Int32) ls (lv_sub hl [] rfl) hF
    clear e_k150
    refine lv_if_eq (tgt := 150) hx hb dX7_fits_89 (by decide) (fun c0 => ?_) (fun c0 => ?_)
    · have hF := if_t hF c0
      exact hk150 ls (lv_sub hl [] rfl) hF
    · have hF := if_f hF c0
      refine lv_iconst (v := 4) hx hb dX7_fits_92 (by decide) ?_
      refine lv_iload_n hx hb dX7_fits_93 rfl (lv_at hl 1 rfl) ?_
      refine lv_imul hx hb dX7_fits_94 ?_
      refine lv_iload_n hx hb dX7_fits_95 rfl (lv_at hl 2 rfl) ?_
      refine lv_imul hx hb dX7_fits_96 ?_
      refine lv_iload hx hb dX7_fits_97 (lv_at hl 6 rfl) ?_
      refine lv_iload hx hb dX7_fits_99 (lv_at hl 6 rfl) ?_
      refine lv_imul hx hb dX7_fits_101 ?_
      refine lv_isub hx hb dX7_fits_102 ?_
      refine lv_if_le (tgt := 150) hx hb dX7_fits_103 (by decide) (fun c0 => ?_) (fun c0 => ?_)
      · have hF := if_t hF c0
        exact hk150 ls (lv_sub hl [] rfl) hF
      · have hF := if_f hF c0
        refine lv_iconst (v := 4) hx hb dX7_fits_106 (by decide) ?_
        refine lv_iload_n hx hb dX7_fits_107 rfl (lv_at hl 1 rfl) ?_
        refine lv_imul hx hb dX7_fits_108 ?_
        refine lv_iload_n hx hb dX7_fits_109 rfl (lv_at hl 2 rfl) ?_
        refine lv_imul hx hb dX7_fits_110 ?_
        refine lv_iload_n hx hb dX7_fits_111 rfl (lv_at hl 3 rfl) ?_
        refine lv_imul hx hb dX7_fits_112 ?_
        refine lv_iload_n hx hb dX7_fits_113 rfl (lv_at hl 4 rfl) ?_
        refine lv_iload hx hb dX7_fits_114 (lv_at hl 5 rfl) ?_
        refine lv_imul hx hb dX7_fits_116 ?_
        refine lv_iload hx hb dX7_fits_117 (lv_at hl 6 rfl) ?_
        refine lv_imul hx hb dX7_fits_119 ?_
        refine lv_iadd hx hb dX7_fits_120 ?_
        refine lv_iload_n hx hb dX7_fits_121 rfl (lv_at hl 1 rfl) ?_
        refine lv_iload_n hx hb dX7_fits_122 rfl (lv_at hl 4 rfl) ?_
        refine lv_imul hx hb dX7_fits_123 ?_
        refine lv_iload_n hx hb dX7_fits_124 rfl (lv_at hl 4 rfl) ?_
        refine lv_imul hx hb dX7_fits_125 ?_
        refine lv_isub hx hb dX7_fits_126 ?_
        refine lv_iload_n hx hb dX7_fits_127 rfl (lv_at hl 2 rfl) ?_
        refine lv_iload hx hb dX7_fits_128 (lv_at hl 5 rfl) ?_
        refine lv_imul hx hb dX7_fits_130 ?_
        refine lv_iload hx hb dX7_fits_131 (lv_at hl 5 rfl) ?_
        refine lv_imul hx hb dX7_fits_133 ?_
        refine lv_isub hx hb dX7_fits_134 ?_
        refine lv_iload_n hx hb dX7_fits_135 rfl (lv_at hl 3 rfl) ?_
        refine lv_iload hx hb dX7_fits_136 (lv_at hl 6 rfl) ?_
        refine lv_imul hx hb dX7_fits_138 ?_
        refine lv_iload hx hb dX7_fits_139 (lv_at hl 6 rfl) ?_
        refine lv_imul hx hb dX7_fits_141 ?_
        refine lv_isub hx hb dX7_fits_142 ?_
        refine lv_if_le (tgt := 150) hx hb dX7_fits_143 (by decide) (fun c0 => ?_) (fun c0 => ?_)
        · have hF := if_t hF c0
          exact hk150 ls (lv_sub hl [] rfl) hF
        · have hF := if_f hF c0
          refine lv_iconst (v := 1) hx hb dX7_fits_146 (by decide) ?_
          refine lv_goto (tgt := 151) hx hb dX7_fits_147 (by decide) ?_
          exact hk151 (1 : Int32) ls (lv_sub hl [] rfl) hF
  clear e_k85
  obtain ⟨k84, e_k84, hF⟩ := nm_ex hF
  have hk84 : ∀  (ls : Array Slot), lv_has ls 7 [(0, .int p0), (1, .int p1), (2, .int p2), (3, .int p3), (4, .int p4), (5, .int p5)] → k84 = some ro → W p l e rmX7_fits s m ([.int p0, .int p1, .int p2, .int p3, .int p4, .int p5] : List Value).toArray below meth c s.heap [] 0 0 Q (F0 m 84 ls []) := by
    intro ls hl hF
    have hF := ka0 e_k84 hF
    refine lv_iconst (v := 0) hx hb dX7_fits_84 (by decide) ?_
    exact hk85 (0 : Int32) ls (lv_sub hl [0, 1, 2, 3, 4, 5] rfl) hF
  clear e_k84
  refine lv_if_eq (tgt := 84) hx hb dX7_fits_9 (by decide) (fun c0 => ?_) (fun c0 => ?_)
  · have hF := if_t hF c0
    exact hk84 ls (lv_sub hl [0, 1, 2, 3, 4, 5] rfl) hF
  · have hF := if_f hF c0
    refine lv_iload_n hx hb dX7_fits_12 rfl (lv_at hl 1 rfl) ?_
    refine lv_i2l (v := p1.toInt64) hx hb dX7_fits_13 rfl ?_
    refine lv_lconst (v := 1) hx hb dX7_fits_14 (by decide) ?_
    refine lv_ldc2 (v := (12)) hx hb hown (hlk (.constantLong RX7 145 (12)) (by decide +kernel)) dX7_fits_15 ?_
    obtain ⟨r_2, hc, hF⟩ := bd1_of hF
    refine rc_i (va_runS (As := [.long p1.toInt64, .long (1 : Int64), .long (12 : Int64)]) (rest := []) ⟨hx, hb, hml, hown, hts⟩ (c_X7_in l p1.toInt64 (1 : Int64) (12 : Int64) r_2 hc) (va_cwS 3 hts g_X7_fits_X7_in rfl rfl rfl (by decide +kernel) ⟨Nat.le_of_ble_eq_true rfl, Nat.le_of_ble_eq_true rfl⟩) ⟨tPc_blind, tPc_at⟩ rfl rfl hl.1 rfl (lv_room (Nat.le_of_ble_eq_true rfl)) dX7_fits_18 ⟨Nat.zero_le _, Nat.zero_le _⟩) ?_
    refine lv_if_eq (tgt := 84) hx hb dX7_fits_21 (by decide) (fun c0 => ?_) (fun c0 => ?_)
    · have hF := if_t hF c0
      exact hk84 ls (lv_sub hl [0, 1, 2, 3, 4, 5] rfl) hF
    · have hF := if_f hF c0
      refine lv_iload_n hx hb dX7_fits_24 rfl (lv_at hl 2 rfl) ?_
      refine lv_i2l (v := p2.toInt64) hx hb dX7_fits_25 rfl ?_
      refine lv_lconst (v := 1) hx hb dX7_fits_26 (by decide) ?_
      refine lv_ldc2 (v := (12)) hx hb hown (hlk (.constantLong RX7 145 (12)) (by decide +kernel)) dX7_fits_27 ?_
      obtain ⟨r_3, hc, hF⟩ := bd1_of hF
      refine rc_i (va_runS (As := [.long p2.toInt64, .long (1 : Int64), .long (12 : Int64)]) (rest := []) ⟨hx, hb, hml, hown, hts⟩ (c_X7_in l p2.toInt64 (1 : Int64) (12 : Int64) r_3 hc) (va_cwS 3 hts g_X7_fits_X7_in rfl rfl rfl (by decide +kernel) ⟨Nat.le_of_ble_eq_true rfl, Nat.le_of_ble_eq_true rfl⟩) ⟨tPc_blind, tPc_at⟩ rfl rfl hl.1 rfl (lv_room (Nat.le_of_ble_eq_true rfl)) dX7_fits_30 ⟨Nat.zero_le _, Nat.zero_le _⟩) ?_
      refine lv_if_eq (tgt := 84) hx hb dX7_fits_33 (by decide) (fun c0 => ?_) (fun c0 => ?_)
      · have hF := if_t hF c0
        exact hk84 ls (lv_sub hl [0, 1, 2, 3, 4, 5] rfl) hF
      · have hF := if_f hF c0
        refine lv_iload_n hx hb dX7_fits_36 rfl (lv_at hl 3 rfl) ?_
        refine lv_i2l (v := p3.toInt64) hx hb dX7_fits_37 rfl ?_
        refine lv_ldc2 (v := (-12)) hx hb hown (hlk (.constantLong RX7 151 (-12)) (by decide +kernel)) dX7_fits_38 ?_
        refine lv_ldc2 (v := (12)) hx hb hown (hlk (.constantLong RX7 145 (12)) (by decide +kernel)) dX7_fits_41 ?_
        obtain ⟨r_4, hc, hF⟩ := bd1_of hF
        refine rc_i (va_runS (As := [.long p3.toInt64, .long (-12 : Int64), .long (12 : Int64)]) (rest := []) ⟨hx, hb, hml, hown, hts⟩ (c_X7_in l p3.toInt64 (-12 : Int64) (12 : Int64) r_4 hc) (va_cwS 3 hts g_X7_fits_X7_in rfl rfl rfl (by decide +kernel) ⟨Nat.le_of_ble_eq_true rfl, Nat.le_of_ble_eq_true rfl⟩) ⟨tPc_blind, tPc_at⟩ rfl rfl hl.1 rfl (lv_room (Nat.le_of_ble_eq_true rfl)) dX7_fits_44 ⟨Nat.zero_le _, Nat.zero_le _⟩) ?_
        refine lv_if_eq (tgt := 84) hx hb dX7_fits_47 (by decide) (fun c0 => ?_) (fun c0 => ?_)
        · have hF := if_t hF c0
          exact hk84 ls (lv_sub hl [0, 1, 2, 3, 4, 5] rfl) hF
        · have hF := if_f hF c0
          refine lv_iload hx hb dX7_fits_50 (lv_at hl 4 rfl) ?_
          refine lv_i2l (v := p4.toInt64) hx hb dX7_fits_52 rfl ?_
          refine lv_ldc2 (v := (-12)) hx hb hown (hlk (.constantLong RX7 151 (-12)) (by decide +kernel)) dX7_fits_53 ?_
          refine lv_ldc2 (v := (12)) hx hb hown (hlk (.constantLong RX7 145 (12)) (by decide +kernel)) dX7_fits_56 ?_
          obtain ⟨r_5, hc, hF⟩ := bd1_of hF
          refine rc_i (va_runS (As := [.long p4.toInt64, .long (-12 : Int64), .long (12 : Int64)]) (rest := []) ⟨hx, hb, hml, hown, hts⟩ (c_X7_in l p4.toInt64 (-12 : Int64) (12 : Int64) r_5 hc) (va_cwS 3 hts g_X7_fits_X7_in rfl rfl rfl (by decide +kernel) ⟨Nat.le_of_ble_eq_true rfl, Nat.le_of_ble_eq_true rfl⟩) ⟨tPc_blind, tPc_at⟩ rfl rfl hl.1 rfl (lv_room (Nat.le_of_ble_eq_true rfl)) dX7_fits_59 ⟨Nat.zero_le _, Nat.zero_le _⟩) ?_
          refine lv_if_eq (tgt := 84) hx hb dX7_fits_62 (by decide) (fun c0 => ?_) (fun c0 => ?_)
          · have hF := if_t hF c0
            exact hk84 ls (lv_sub hl [0, 1, 2, 3, 4, 5] rfl) hF
          · have hF := if_f hF c0
            refine lv_iload hx hb dX7_fits_65 (lv_at hl 5 rfl) ?_
            refine lv_i2l (v := p5.toInt64) hx hb dX7_fits_67 rfl ?_
            refine lv_ldc2 (v := (-12)) hx hb hown (hlk (.constantLong RX7 151 (-12)) (by decide +kernel)) dX7_fits_68 ?_
            refine lv_ldc2 (v := (12)) hx hb hown (hlk (.constantLong RX7 145 (12)) (by decide +kernel)) dX7_fits_71 ?_
            obtain ⟨r_6, hc, hF⟩ := bd1_of hF
            refine rc_i (va_runS (As := [.long p5.toInt64, .long (-12 : Int64), .long (12 : Int64)]) (rest := []) ⟨hx, hb, hml, hown, hts⟩ (c_X7_in l p5.toInt64 (-12 : Int64) (12 : Int64) r_6 hc) (va_cwS 3 hts g_X7_fits_X7_in rfl rfl rfl (by decide +kernel) ⟨Nat.le_of_ble_eq_true rfl, Nat.le_of_ble_eq_true rfl⟩) ⟨tPc_blind, tPc_at⟩ rfl rfl hl.1 rfl (lv_room (Nat.le_of_ble_eq_true rfl)) dX7_fits_74 ⟨Nat.zero_le _, Nat.zero_le _⟩) ?_
            refine lv_if_eq (tgt := 84) hx hb dX7_fits_77 (by decide) (fun c0 => ?_) (fun c0 => ?_)
            · have hF := if_t hF c0
              exact hk84 ls (lv_sub hl [0, 1, 2, 3, 4, 5] rfl) hF
            · have hF := if_f hF c0
              refine lv_iconst (v := 1) hx hb dX7_fits_80 (by decide) ?_
              refine lv_goto (tgt := 85) hx hb dX7_fits_81 (by decide) ?_
              exact hk85 (1 : Int32) ls (lv_sub hl [0, 1, 2, 3, 4, 5] rfl) hF
def fX7_become (numbers : Nat → Int32) (p0 : Int32) (p1 : Int32) (p2 : Int32) (p3 : Int32) (p4 : Int32) (p5 : Int32) (p6 : Int32) : Option ((Nat → Int32)) :=
  nm ((6 : Int32) * p0) (fun (v_1 : Int32) => if okI v_1 72 then nm (upd numbers v_1.toNatClampNeg p1) (fun (numbers_2 : Nat → Int32) => nm (((6 : Int32) * p0) + (1 : Int32)) (fun (v_3 : Int32) => if okI v_3 72 then nm (upd numbers_2 v_3.toNatClampNeg p2) (fun (numbers_4 : Nat → Int32) => nm (((6 : Int32) * p0) + (2 : Int32)) (fun (v_5 : Int32) => if okI v_5 72 then nm (upd numbers_4 v_5.toNatClampNeg p3) (fun (numbers_6 : Nat → Int32) => nm (((6 : Int32) * p0) + (3 : Int32)) (fun (v_7 : Int32) => if okI v_7 72 then nm (upd numbers_6 v_7.toNatClampNeg p4) (fun (numbers_8 : Nat → Int32) => nm (((6 : Int32) * p0) + (4 : Int32)) (fun (v_9 : Int32) => if okI v_9 72 then nm (upd numbers_8 v_9.toNatClampNeg p5) (fun (numbers_10 : Nat → Int32) => nm (((6 : Int32) * p0) + (5 : Int32)) (fun (v_11 : Int32) => if okI v_11 72 then nm (upd numbers_10 v_11.toNatClampNeg p6) (fun (numbers_12 : Nat → Int32) => some numbers_12) else none)) else none)) else none)) else none)) else none)) else none)
def lkX7_become : List Cond := [.fieldLink RX7 7 "KinFormsModel" "numbers" "[I"]
def vX7_become : List Cond := .code yX7_become cX7_become 8 none :: (lkX7_become ++ (wsX70 ++ ([])))
theorem q_X7_become : ∀ w ∈ vX7_become, goodWord w = true := gd_cons rfl (gd_app (by decide +kernel) (gd_app q_wsX70 gd_nil))
abbrev rmX7_become : Room := { frames := 0, cells := 0, slots := 0, locals := 0 }
set_option maxHeartbeats 4000000 in
set_option maxRecDepth 100000 in
theorem c_X7_become (l : Launch) (dC : Nat → ClassId) (dI : Nat → Nat → Nat) (cI : ClassId) (cJ : ClassId) (h : Nat) (a : Nat → Nat) (sz : Nat) (forms : Int32) (prime : Int32) (turns : Int32) (lineT : Int32) (lineU : Int32) (kinds : Int32) (upper : Int64) (lower : Int64) (numbers : Nat → Int32) (q : Nat → Int64) (base : Nat → Int64) (least : Nat → Int64) (table : Nat → Int64) (rows : Nat → Int64) (lists : Nat → Int64) (listSize : Nat → Int32) (tried : Nat → Int64) (other : Nat → Int64) (line : Nat → Int64) (makers : Nat → Int64) (touches : Nat → Int64) (made : Nat → Int64) (kindForm : Nat → Int64) (kindTurns : Nat → Int32) (kindWays : Nat → Int32) (p0 : Int32) (p1 : Int32) (p2 : Int32) (p3 : Int32) (p4 : Int32) (p5 : Int32) (p6 : Int32) (o_numbers : Nat → Int32) (hF : fX7_become numbers p0 p1 p2 p3 p4 p5 p6 = some o_numbers) : Met l yX7_become vX7_become rmX7_become (va_Pc [.ref h, .int p0, .int p1, .int p2, .int p3, .int p4, .int p5, .int p6] (mPc (dC, dI) vwCl (mW cI cJ h a forms prime turns lineT lineU kinds upper lower numbers q base least table rows lists listSize tried other line makers touches made kindForm kindTurns kindWays) [(cI, .int), (cJ, .long)] sz)) (va_Qv (fun (_ : Unit) => True) (mPo (dC, dI) vwCl (mW cI cJ h a forms prime turns lineT lineU kinds upper lower o_numbers q base least table rows lists listSize tried other line makers touches made kindForm kindTurns kindWays) [(cI, .int), (cJ, .long)] (va_A (mW cI cJ h a forms prime turns lineT lineU kinds upper lower numbers q base least table rows lists listSize tried other line makers touches made kindForm kindTurns kindWays) sz)) (va_A (mW cI cJ h a forms prime turns lineT lineU kinds upper lower numbers q base least table rows lists listSize tried other line makers touches made kindForm kindTurns kindWays) sz)) 0 0 (va_A (mW cI cJ h a forms prime turns lineT lineU kinds upper lower numbers q base least table rows lists listSize tried other line makers touches made kindForm kindTurns kindWays) sz) := by
  refine Met.ofW (cc := cX7_become) (maxL := 8) (ret := none) (by decide) rfl ?_
  intro p e s m args below meth c s₁ B hml hv
  obtain ⟨rfl, hsz, hP, hK, hD0⟩ := hv
  have hx := B.exec
  have hb := B.bytes
  have hr := B.returns
  have hts := atoms_spec (ws := vX7_become) B.pre
  have hlk : ∀ w ∈ lkX7_become, w.before _ s = true := fun w h => hts w (List.mem_cons_of_mem _ (List.mem_append_left _ h))
  have hown : s.vm.findClass RX7 = some m.cls := findClass_of_methodNamed B.named
  have hlocks := B.notSynchronized
  subst hsz
  have hD := hD0.self (sz := s.heap.size)
  generalize hAe : va_A (mW cI cJ h a forms prime turns lineT lineU kinds upper lower numbers q base least table rows lists listSize tried other line makers touches made kindForm kindTurns kindWays) s.heap.size = A at hD ⊢
  have hA : ∀ q : Nat, s.heap.size ≤ q → A q := fun q h => by rw [← hAe]; exact Or.inr h
  have hS : va_S A s.heap s.heap [] := va_S.rf
  have hinX7 : ∀ w ∈ wsX70, w ∈ vX7_become := fun w h => List.mem_cons_of_mem _ (List.mem_append_right _ (List.mem_append_left _ h))
  have hf_7 := hlk (.fieldLink RX7 7 "KinFormsModel" "numbers" "[I") (by decide +kernel)
  have hl := lv_entry ([.ref h, .int p0, .int p1, .int p2, .int p3, .int p4, .int p5, .int p6] : List Value) (n := 8) (Nat.le_of_ble_eq_true rfl)
  rw [lg_entry_eq]
  generalize (lg_sl ([.ref h, .int p0, .int p1, .int p2, .int p3, .int p4, .int p5, .int p6] : List Value) ++ List.replicate (8 - (lg_sl ([.ref h, .int p0, .int p1, .int p2, .int p3, .int p4, .int p5, .int p6] : List Value)).length) Slot.unset).toArray = ls at hl ⊢
  have hl : lv_has ls 8 [(0, .ref h), (1, .int p0), (2, .int p1), (3, .int p2), (4, .int p3), (5, .int p4), (6, .int p5), (7, .int p6)] := hl
  unfold fX7_become at hF
  refine W_Q (fun Q hQ => ?_)
  have hP : va_P (dC, dI) vwCl (mW cI cJ h a forms prime turns lineT lineU kinds upper lower numbers q base least table rows lists listSize tried other line makers touches made kindForm kindTurns kindWays) s.heap := hP
  refine W_HL (fun H locs eH eL => ?_)
  rw [← eH] at hP
  have hS : va_S A s.heap H locs := by rw [eH, eL]; exact hS
  refine lv_aload_n hx hb dX7_become_0 rfl (lv_at hl 0 rfl) ?_
  refine va_get (D := (dC, dI)) (ci := 5) (v := .ref (a 1)) (C := RX7) (T := TX7) (N := 25) hx hb hts hinX7 hown hK hP 0 rfl rfl 1 (by decide) hf_7 (fun _ h9 => h9) rfl dX7_become_1 ?_
  refine lv_bipush (v := (6)) hx hb dX7_become_4 (by decide) ?_
  refine lv_iload_n hx hb dX7_become_6 rfl (lv_at hl 1 rfl) ?_
  refine lv_imul hx hb dX7_become_7 ?_
  refine lv_iload_n hx hb dX7_become_8 rfl (lv_at hl 2 rfl) ?_
  obtain ⟨v_1, e_v_1, hF⟩ := nm_ex hF
  rw [← e_v_1]
  obtain ⟨hi, hF⟩ := ck_of hF
  obtain ⟨numbers_2, e_numbers_2, hF⟩ := nm_ex hF
  refine kc_iast (j := v_1.toNatClampNeg) (g := numbers_2) hx hb hK hP hD hS 1 0 rfl rfl rfl hi dX7_become_9 e_numbers_2 (fun H locs hP hD hS => ?_)
  have hP : va_P (dC, dI) vwCl (mW cI cJ h a forms prime turns lineT lineU kinds upper lower numbers_2 q base least table rows lists listSize tried other line makers touches made kindForm kindTurns kindWays) H := hP
  have hD : va_D A (mW cI cJ h a forms prime turns lineT lineU kinds upper lower numbers_2 q base least table rows lists listSize tried other line makers touches made kindForm kindTurns kindWays) := hD
  refine lv_aload_n hx hb dX7_become_10 rfl (lv_at hl 0 rfl) ?_
  refine va_get (D := (dC, dI)) (ci := 5) (v := .ref (a 1)) (C := RX7) (T := TX7) (N := 25) hx hb hts hinX7 hown hK hP 0 rfl rfl 1 (by decide) hf_7 (fun _ h9 => h9) rfl dX7_become_11 ?_
  refine lv_bipush (v := (6)) hx hb dX7_become_14 (by decide) ?_
  refine lv_iload_n hx hb dX7_become_16 rfl (lv_at hl 1 rfl) ?_
  refine lv_imul hx hb dX7_become_17 ?_
  refine lv_iconst (v := 1) hx hb dX7_become_18 (by decide) ?_
  refine lv_iadd hx hb dX7_become_19 ?_
  refine lv_iload_n hx hb dX7_become_20 rfl (lv_at hl 3 rfl) ?_
  obtain ⟨v_3, e_v_3, hF⟩ := nm_ex hF
  rw [← e_v_3]
  obtain ⟨hi, hF⟩ := ck_of hF
  obtain ⟨numbers_4, e_numbers_4, hF⟩ := nm_ex hF
  refine kc_iast (j := v_3.toNatClampNeg) (g := numbers_4) hx hb hK hP hD hS 1 0 rfl rfl rfl hi dX7_become_21 e_numbers_4 (fun H locs hP hD hS => ?_)
  have hP : va_P (dC, dI) vwCl (mW cI cJ h a forms prime turns lineT lineU kinds upper lower numbers_4 q base least table rows lists listSize tried other line makers touches made kindForm kindTurns kindWays) H := hP
  have hD : va_D A (mW cI cJ h a forms prime turns lineT lineU kinds upper lower numbers_4 q base least table rows lists listSize tried other line makers touches made kindForm kindTurns kindWays) := hD
  refine lv_aload_n hx hb dX7_become_22 rfl (lv_at hl 0 rfl) ?_
  refine va_get (D := (dC, dI)) (ci := 5) (v := .ref (a 1)) (C := RX7) (T := TX7) (N := 25) hx hb hts hinX7 hown hK hP 0 rfl rfl 1 (by decide) hf_7 (fun _ h9 => h9) rfl dX7_become_23 ?_
  refine lv_bipush (v := (6)) hx hb dX7_become_26 (by decide) ?_
  refine lv_iload_n hx hb dX7_become_28 rfl (lv_at hl 1 rfl) ?_
  refine lv_imul hx hb dX7_become_29 ?_
  refine lv_iconst (v := 2) hx hb dX7_become_30 (by decide) ?_
  refine lv_iadd hx hb dX7_become_31 ?_
  refine lv_iload hx hb dX7_become_32 (lv_at hl 4 rfl) ?_
  obtain ⟨v_5, e_v_5, hF⟩ := nm_ex hF
  rw [← e_v_5]
  obtain ⟨hi, hF⟩ := ck_of hF
  obtain ⟨numbers_6, e_numbers_6, hF⟩ := nm_ex hF
  refine kc_iast (j := v_5.toNatClampNeg) (g := numbers_6) hx hb hK hP hD hS 1 0 rfl rfl rfl hi dX7_become_34 e_numbers_6 (fun H locs hP hD hS => ?_)
  have hP : va_P (dC, dI) vwCl (mW cI cJ h a forms prime turns lineT lineU kinds upper lower numbers_6 q base least table rows lists listSize tried other line makers touches made kindForm kindTurns kindWays) H := hP
  have hD : va_D A (mW cI cJ h a forms prime turns lineT lineU kinds upper lower numbers_6 q base least table rows lists listSize tried other line makers touches made kindForm kindTurns kindWays) := hD
  refine lv_aload_n hx hb dX7_become_35 rfl (lv_at hl 0 rfl) ?_
  refine va_get (D := (dC, dI)) (ci := 5) (v := .ref (a 1)) (C := RX7) (T := TX7) (N := 25) hx hb hts hinX7 hown hK hP 0 rfl rfl 1 (by decide) hf_7 (fun _ h9 => h9) rfl dX7_become_36 ?_
  refine lv_bipush (v := (6)) hx hb dX7_become_39 (by decide) ?_
  refine lv_iload_n hx hb dX7_become_41 rfl (lv_at hl 1 rfl) ?_
  refine lv_imul hx hb dX7_become_42 ?_
  refine lv_iconst (v := 3) hx hb dX7_become_43 (by decide) ?_
  refine lv_iadd hx hb dX7_become_44 ?_
  refine lv_iload hx hb dX7_become_45 (lv_at hl 5 rfl) ?_
  obtain ⟨v_7, e_v_7, hF⟩ := nm_ex hF
  rw [← e_v_7]
  obtain ⟨hi, hF⟩ := ck_of hF
  obtain ⟨numbers_8, e_numbers_8, hF⟩ := nm_ex hF
  refine kc_iast (j := v_7.toNatClampNeg) (g := numbers_8) hx hb hK hP hD hS 1 0 rfl rfl rfl hi dX7_become_47 e_numbers_8 (fun H locs hP hD hS => ?_)
  have hP : va_P (dC, dI) vwCl (mW cI cJ h a forms prime turns lineT lineU kinds upper lower numbers_8 q base least table rows lists listSize tried other line makers touches made kindForm kindTurns kindWays) H := hP
  have hD : va_D A (mW cI cJ h a forms prime turns lineT lineU kinds upper lower numbers_8 q base least table rows lists listSize tried other line makers touches made kindForm kindTurns kindWays) := hD
  refine lv_aload_n hx hb dX7_become_48 rfl (lv_at hl 0 rfl) ?_
  refine va_get (D := (dC, dI)) (ci := 5) (v := .ref (a 1)) (C := RX7) (T := TX7) (N := 25) hx hb hts hinX7 hown hK hP 0 rfl rfl 1 (by decide) hf_7 (fun _ h9 => h9) rfl dX7_become_49 ?_
  refine lv_bipush (v := (6)) hx hb dX7_become_52 (by decide) ?_
  refine lv_iload_n hx hb dX7_become_54 rfl (lv_at hl 1 rfl) ?_
  refine lv_imul hx hb dX7_become_55 ?_
  refine lv_iconst (v := 4) hx hb dX7_become_56 (by decide) ?_
  refine lv_iadd hx hb dX7_become_57 ?_
  refine lv_iload hx hb dX7_become_58 (lv_at hl 6 rfl) ?_
  obtain ⟨v_9, e_v_9, hF⟩ := nm_ex hF
  rw [← e_v_9]
  obtain ⟨hi, hF⟩ := ck_of hF
  obtain ⟨numbers_10, e_numbers_10, hF⟩ := nm_ex hF
  refine kc_iast (j := v_9.toNatClampNeg) (g := numbers_10) hx hb hK hP hD hS 1 0 rfl rfl rfl hi dX7_become_60 e_numbers_10 (fun H locs hP hD hS => ?_)
  have hP : va_P (dC, dI) vwCl (mW cI cJ h a forms prime turns lineT lineU kinds upper lower numbers_10 q base least table rows lists listSize tried other line makers touches made kindForm kindTurns kindWays) H := hP
  have hD : va_D A (mW cI cJ h a forms prime turns lineT lineU kinds upper lower numbers_10 q base least table rows lists listSize tried other line makers touches made kindForm kindTurns kindWays) := hD
  refine lv_aload_n hx hb dX7_become_61 rfl (lv_at hl 0 rfl) ?_
  refine va_get (D := (dC, dI)) (ci := 5) (v := .ref (a 1)) (C := RX7) (T := TX7) (N := 25) hx hb hts hinX7 hown hK hP 0 rfl rfl 1 (by decide) hf_7 (fun _ h9 => h9) rfl dX7_become_62 ?_
  refine lv_bipush (v := (6)) hx hb dX7_become_65 (by decide) ?_
  refine lv_iload_n hx hb dX7_become_67 rfl (lv_at hl 1 rfl) ?_
  refine lv_imul hx hb dX7_become_68 ?_
  refine lv_iconst (v := 5) hx hb dX7_become_69 (by decide) ?_
  refine lv_iadd hx hb dX7_become_70 ?_
  refine lv_iload hx hb dX7_become_71 (lv_at hl 7 rfl) ?_
  obtain ⟨v_11, e_v_11, hF⟩ := nm_ex hF
  rw [← e_v_11]
  obtain ⟨hi, hF⟩ := ck_of hF
  obtain ⟨numbers_12, e_numbers_12, hF⟩ := nm_ex hF
  refine kc_iast (j := v_11.toNatClampNeg) (g := numbers_12) hx hb hK hP hD hS 1 0 rfl rfl rfl hi dX7_become_73 e_numbers_12 (fun H locs hP hD hS => ?_)
  have hP : va_P (dC, dI) vwCl (mW cI cJ h a forms prime turns lineT lineU kinds upper lower numbers_12 q base least table rows lists listSize tried other line makers touches made kindForm kindTurns kindWays) H := hP
  have hD : va_D A (mW cI cJ h a forms prime turns lineT lineU kinds upper lower numbers_12 q base least table rows lists listSize tried other line makers touches made kindForm kindTurns kindWays) := hD
  have q0 := sm1 hF
  have hP : va_P (dC, dI) vwCl (mW cI cJ h a forms prime turns lineT lineU kinds upper lower o_numbers q base least table rows lists listSize tried other line makers touches made kindForm kindTurns kindWays) H := by rw [← q0]; exact hP
  have hD : va_D A (mW cI cJ h a forms prime turns lineT lineU kinds upper lower o_numbers q base least table rows lists listSize tried other line makers touches made kindForm kindTurns kindWays) := by rw [← q0]; exact hD
  refine W_Qe hQ ?_
  exact W.vret hx hb hr (fun t ht hW => ⟨⟨(), rfl, trivial, by rw [ht]; exact hP, va_K.moved hW.alike hK, hD⟩, hS.F ht⟩) hS.2.2 dX7_become_74
def fX7_form (forms : Int32) (numbers : Nat → Int32) (p0 : Int32) (p1 : Int32) (p2 : Int32) (p3 : Int32) (p4 : Int32) (p5 : Int32) : Option (Int32 × (Int32) × (Nat → Int32)) :=
  bd1 (fX7_fits p0 p1 p2 p3 p4 p5) (fun (r_1 : Int32) => if r_1 = 0 then (some ((-100002 : Int32), forms, numbers)) else (if forms = (12 : Int32) then (some ((-100004 : Int32), forms, numbers)) else (bd1 (fX7_become numbers forms p0 p1 p2 p3 p4 p5) (fun (numbers_2 : Nat → Int32) => nm (forms + (1 : Int32)) (fun (forms_3 : Int32) => nm (forms_3 - (1 : Int32)) (fun (v_4 : Int32) => some (v_4, forms_3, numbers_2)))))))
def lkX7_form : List Cond := [.constant RX7 161 (-100004), .constant RX7 157 (-100002), .fieldLink RX7 158 "KinFormsModel" "forms" "I"]
def vX7_form : List Cond := .code yX7_form cX7_form 7 (some .int) :: (lkX7_form ++ (wsX70 ++ (va_wsS RX7 153 yX7_fits vX7_fits ++ (wsV RX7 162 RX7 yX7_become vX7_become ++ ([])))))
theorem q_X7_form : ∀ w ∈ vX7_form, goodWord w = true := gd_cons rfl (gd_app (by decide +kernel) (gd_app q_wsX70 (gd_app (gd_S q_X7_fits) (gd_app (gd_V q_X7_become) gd_nil))))
theorem g_X7_form_X7_fits : GoodIn vX7_form (va_wsS RX7 153 yX7_fits vX7_fits) := gi_of (fun w h => List.mem_cons_of_mem _ (List.mem_append_right _ (List.mem_append_right _ (List.mem_append_left _ h)))) (gd_S q_X7_fits)
theorem g_X7_form_X7_become : GoodIn vX7_form (wsV RX7 162 RX7 yX7_become vX7_become) := gi_of (fun w h => List.mem_cons_of_mem _ (List.mem_append_right _ (List.mem_append_right _ (List.mem_append_right _ (List.mem_append_left _ h))))) (gd_V q_X7_become)
abbrev rmX7_form : Room := { frames := 2, cells := 0, slots := 0, locals := 51 }
set_option maxHeartbeats 4000000 in
set_option maxRecDepth 100000 in
theorem c_X7_form (l : Launch) (dC : Nat → ClassId) (dI : Nat → Nat → Nat) (cI : ClassId) (cJ : ClassId) (h : Nat) (a : Nat → Nat) (sz : Nat) (forms : Int32) (prime : Int32) (turns : Int32) (lineT : Int32) (lineU : Int32) (kinds : Int32) (upper : Int64) (lower : Int64) (numbers : Nat → Int32) (q : Nat → Int64) (base : Nat → Int64) (least : Nat → Int64) (table : Nat → Int64) (rows : Nat → Int64) (lists : Nat → Int64) (listSize : Nat → Int32) (tried : Nat → Int64) (other : Nat → Int64) (line : Nat → Int64) (makers : Nat → Int64) (touches : Nat → Int64) (made : Nat → Int64) (kindForm : Nat → Int64) (kindTurns : Nat → Int32) (kindWays : Nat → Int32) (p0 : Int32) (p1 : Int32) (p2 : Int32) (p3 : Int32) (p4 : Int32) (p5 : Int32) (ro : Int32) (o_forms : Int32) (o_numbers : Nat → Int32) (hF : fX7_form forms numbers p0 p1 p2 p3 p4 p5 = some (ro, o_forms, o_numbers)) : Met l yX7_form vX7_form rmX7_form (va_Pc [.ref h, .int p0, .int p1, .int p2, .int p3, .int p4, .int p5] (mPc (dC, dI) vwCl (mW cI cJ h a forms prime turns lineT lineU kinds upper lower numbers q base least table rows lists listSize tried other line makers touches made kindForm kindTurns kindWays) [(cI, .int), (cJ, .long)] sz)) (va_Qi (fun x (_ : Unit) => x = ro) (mPo (dC, dI) vwCl (mW cI cJ h a o_forms prime turns lineT lineU kinds upper lower o_numbers q base least table rows lists listSize tried other line makers touches made kindForm kindTurns kindWays) [(cI, .int), (cJ, .long)] (va_A (mW cI cJ h a forms prime turns lineT lineU kinds upper lower numbers q base least table rows lists listSize tried other line makers touches made kindForm kindTurns kindWays) sz)) (va_A (mW cI cJ h a forms prime turns lineT lineU kinds upper lower numbers q base least table rows lists listSize tried other line makers touches made kindForm kindTurns kindWays) sz)) 0 0 (va_A (mW cI cJ h a forms prime turns lineT lineU kinds upper lower numbers q base least table rows lists listSize tried other line makers touches made kindForm kindTurns kindWays) sz) := by
  refine Met.ofW (cc := cX7_form) (maxL := 7) (ret := (some .int)) (by decide) rfl ?_
  intro p e s m args below meth c s₁ B hml hv
  obtain ⟨rfl, hsz, hP, hK, hD0⟩ := hv
  have hx := B.exec
  have hb := B.bytes
  have hr := B.returns
  have hts := atoms_spec (ws := vX7_form) B.pre
  have hlk : ∀ w ∈ lkX7_form, w.before _ s = true := fun w h => hts w (List.mem_cons_of_mem _ (List.mem_append_left _ h))
  have hown : s.vm.findClass RX7 = some m.cls := findClass_of_methodNamed B.named
  have hlocks := B.notSynchronized
  subst hsz
  have hD := hD0.self (sz := s.heap.size)
  generalize hAe : va_A (mW cI cJ h a forms prime turns lineT lineU kinds upper lower numbers q base least table rows lists listSize tried other line makers touches made kindForm kindTurns kindWays) s.heap.size = A at hD ⊢
  have hA : ∀ q : Nat, s.heap.size ≤ q → A q := fun q h => by rw [← hAe]; exact Or.inr h
  have hS : va_S A s.heap s.heap [] := va_S.rf
  have hinX7 : ∀ w ∈ wsX70, w ∈ vX7_form := fun w h => List.mem_cons_of_mem _ (List.mem_append_right _ (List.mem_append_left _ h))
  have hf_158 := hlk (.fieldLink RX7 158 "KinFormsModel" "forms" "I") (by decide +kernel)
  have hl := lv_entry ([.ref h, .int p0, .int p1, .int p2, .int p3, .int p4, .int p5] : List Value) (n := 7) (Nat.le_of_ble_eq_true rfl)
  rw [lg_entry_eq]
  generalize (lg_sl ([.ref h, .int p0, .int p1, .int p2, .int p3, .int p4, .int p5] : List Value) ++ List.replicate (7 - (lg_sl ([.ref h, .int p0, .int p1, .int p2, .int p3, .int p4, .int p5] : List Value)).length) Slot.unset).toArray = ls at hl ⊢
  have hl : lv_has ls 7 [(0, .ref h), (1, .int p0), (2, .int p1), (3, .int p2), (4, .int p3), (5, .int p4), (6, .int p5)] := hl
  unfold fX7_form at hF
  refine W_Q (fun Q hQ => ?_)
  have hP : va_P (dC, dI) vwCl (mW cI cJ h a forms prime turns lineT lineU kinds upper lower numbers q base least table rows lists listSize tried other line makers touches made kindForm kindTurns kindWays) s.heap := hP
  refine W_HL (fun H locs eH eL => ?_)
  rw [← eH] at hP
  have hS : va_S A s.heap H locs := by rw [eH, eL]; exact hS
  refine lv_iload_n hx hb dX7_form_0 rfl (lv_at hl 1 rfl) ?_
  refine lv_iload_n hx hb dX7_form_1 rfl (lv_at hl 2 rfl) ?_
  refine lv_iload_n hx hb dX7_form_2 rfl (lv_at hl 3 rfl) ?_
  refine lv_iload hx hb dX7_form_3 (lv_at hl 4 rfl) ?_
  refine lv_iload hx hb dX7_form_5 (lv_at hl 5 rfl) ?_
  refine lv_iload hx hb dX7_form_7 (lv_at hl 6 rfl) ?_
  obtain ⟨r_1, hc, hF⟩ := bd1_of hF
  refine rc_i (va_runS (As := [.int p0, .int p1, .int p2, .int p3, .int p4, .int p5]) (rest := []) ⟨hx, hb, hml, hown, hts⟩ (c_X7_fits l p0 p1 p2 p3 p4 p5 r_1 hc) (va_cwS 6 hts g_X7_form_X7_fits rfl rfl rfl (by decide +kernel) ⟨Nat.le_of_ble_eq_true rfl, Nat.le_of_ble_eq_true rfl⟩) ⟨tPc_blind, tPc_at⟩ rfl rfl hl.1 rfl (lv_room (Nat.le_of_ble_eq_true rfl)) dX7_form_9 ⟨Nat.zero_le _, Nat.zero_le _⟩) ?_
  refine lv_if_ne (tgt := 18) hx hb dX7_form_12 (by decide) (fun c0 => ?_) (fun c0 => ?_)
  · have hF := if_f hF c0
    refine lv_aload_n hx hb dX7_form_18 rfl (lv_at hl 0 rfl) ?_
    refine va_get (D := (dC, dI)) (ci := 5) (v := .int forms) (C := RX7) (T := TX7) (N := 25) hx hb hts hinX7 hown hK hP 0 rfl rfl 0 (by decide) hf_158 (fun _ h9 => h9) rfl dX7_form_19 ?_
    refine lv_bipush (v := (12)) hx hb dX7_form_22 (by decide) ?_
    refine lv_icmp_ne (tgt := 30) hx hb dX7_form_24 (by decide) (fun c0 => ?_) (fun c0 => ?_)
    · have hF := if_f hF c0
      refine lv_aload_n hx hb dX7_form_30 rfl (lv_at hl 0 rfl) ?_
      refine lv_aload_n hx hb dX7_form_31 rfl (lv_at hl 0 rfl) ?_
      refine va_get (D := (dC, dI)) (ci := 5) (v := .int forms) (C := RX7) (T := TX7) (N := 25) hx hb hts hinX7 hown hK hP 0 rfl rfl 0 (by decide) hf_158 (fun _ h9 => h9) rfl dX7_form_32 ?_
      refine lv_iload_n hx hb dX7_form_35 rfl (lv_at hl 1 rfl) ?_
      refine lv_iload_n hx hb dX7_form_36 rfl (lv_at hl 2 rfl) ?_
      refine lv_iload_n hx hb dX7_form_37 rfl (lv_at hl 3 rfl) ?_
      refine lv_iload hx hb dX7_form_38 (lv_at hl 4 rfl) ?_
      refine lv_iload hx hb dX7_form_40 (lv_at hl 5 rfl) ?_
      refine lv_iload hx hb dX7_form_42 (lv_at hl 6 rfl) ?_
      obtain ⟨numbers_2, hc, hF⟩ := bd1_of hF
      refine mc_v (va_runV (As := [.int forms, .int p0, .int p1, .int p2, .int p3, .int p4, .int p5]) (rest := []) ⟨hx, hb, hml, hown, hts⟩ (c_X7_become l dC dI cI cJ h a H.size forms prime turns lineT lineU kinds upper lower numbers q base least table rows lists listSize tried other line makers touches made kindForm kindTurns kindWays forms p0 p1 p2 p3 p4 p5 numbers_2 hc) (cwV 7 hts g_X7_form_X7_become rfl rfl rfl (by decide +kernel) ⟨Nat.le_of_ble_eq_true rfl, Nat.le_of_ble_eq_true rfl⟩) ⟨mPc_blind, va_recv hK hP (ci := 5) (q0 := 0) rfl rfl, mPc_at hK hP hD⟩ rfl rfl hl.1 rfl (lv_room (Nat.le_of_ble_eq_true rfl)) dX7_form_44 ⟨Nat.zero_le _, Nat.zero_le _⟩) hS (fr_all hD hS hA) (fun H locs hP hD hS => ?_)
      refine lv_aload_n hx hb dX7_form_47 rfl (lv_at hl 0 rfl) ?_
      refine lv_dup hx hb dX7_form_48 rfl ?_
      refine va_get (D := (dC, dI)) (ci := 5) (v := .int forms) (C := RX7) (T := TX7) (N := 25) hx hb hts hinX7 hown hK hP 0 rfl rfl 0 (by decide) hf_158 (fun _ h9 => h9) rfl dX7_form_49 ?_
      refine lv_iconst (v := 1) hx hb dX7_form_52 (by decide) ?_
      refine lv_iadd hx hb dX7_form_53 ?_
      refine lv_topi (fun forms_3 e_forms_3 => ?_)
      have hF := nm_at hF e_forms_3
      refine va_put (D := (dC, dI)) (ci := 5) (v := .int forms_3) (ty := .int) (C := RX7) (T := TX7) (N := 25) hx hb hts hinX7 tyX7 tyX7_ok nmX7 hown hK hP hD hS 0 rfl rfl 0 (by decide) hf_158 (fun _ h9 => h9) rfl (by decide +kernel) rfl rfl (Nat.le_of_ble_eq_true rfl) dX7_form_54 (fun H locs hP hD hS => ?_)
      have hP : va_P (dC, dI) vwCl (mW cI cJ h a forms_3 prime turns lineT lineU kinds upper lower numbers_2 q base least table rows lists listSize tried other line makers touches made kindForm kindTurns kindWays) H := hP
      have hD : va_D A (mW cI cJ h a forms_3 prime turns lineT lineU kinds upper lower numbers_2 q base least table rows lists listSize tried other line makers touches made kindForm kindTurns kindWays) := hD
      refine lv_aload_n hx hb dX7_form_57 rfl (lv_at hl 0 rfl) ?_
      refine va_get (D := (dC, dI)) (ci := 5) (v := .int forms_3) (C := RX7) (T := TX7) (N := 25) hx hb hts hinX7 hown hK hP 0 rfl rfl 0 (by decide) hf_158 (fun _ h9 => h9) rfl dX7_form_58 ?_
      refine lv_iconst (v := 1) hx hb dX7_form_61 (by decide) ?_
      refine lv_isub hx hb dX7_form_62 ?_
      refine lv_topi (fun v_4 e_v_4 => ?_)
      have hF := nm_at hF e_v_4
      obtain ⟨q0, q1, q2⟩ := sm3 hF
      have hP : va_P (dC, dI) vwCl (mW cI cJ h a o_forms prime turns lineT lineU kinds upper lower o_numbers q base least table rows lists listSize tried other line makers touches made kindForm kindTurns kindWays) H := by rw [← q1, ← q2]; exact hP
      have hD : va_D A (mW cI cJ h a o_forms prime turns lineT lineU kinds upper lower o_numbers q base least table rows lists listSize tried other line makers touches made kindForm kindTurns kindWays) := by rw [← q1, ← q2]; exact hD
      refine W_Qe hQ ?_
      exact W.iret hx hb hr (fun t ht hW => ⟨⟨v_4, (), rfl, q0, by rw [ht]; exact hP, va_K.moved hW.alike hK, hD⟩, hS.F ht⟩) hS.2.2 dX7_form_63
    · have hF := if_t hF c0
      refine lv_ldc (v := (-100004)) hx hb hown (hlk (.constant RX7 161 (-100004)) (by decide +kernel)) dX7_form_27 ?_
      obtain ⟨q0, q1, q2⟩ := sm3 hF
      have hP : va_P (dC, dI) vwCl (mW cI cJ h a o_forms prime turns lineT lineU kinds upper lower o_numbers q base least table rows lists listSize tried other line makers touches made kindForm kindTurns kindWays) H := by rw [← q1, ← q2]; exact hP
      have hD : va_D A (mW cI cJ h a o_forms prime turns lineT lineU kinds upper lower o_numbers q base least table rows lists listSize tried other line makers touches made kindForm kindTurns kindWays) := by rw [← q1, ← q2]; exact hD
      refine W_Qe hQ ?_
      exact W.iret hx hb hr (fun t ht hW => ⟨⟨(-100004 : Int32), (), rfl, q0, by rw [ht]; exact hP, va_K.moved hW.alike hK, hD⟩, hS.F ht⟩) hS.2.2 dX7_form_29
  · have hF := if_t hF c0
    refine lv_ldc (v := (-100002)) hx hb hown (hlk (.constant RX7 157 (-100002)) (by decide +kernel)) dX7_form_15 ?_
    obtain ⟨q0, q1, q2⟩ := sm3 hF
    have hP : va_P (dC, dI) vwCl (mW cI cJ h a o_forms prime turns lineT lineU kinds upper lower o_numbers q base least table rows lists listSize tried other line makers touches made kindForm kindTurns kindWays) H := by rw [← q1, ← q2]; exact hP
    have hD : va_D A (mW cI cJ h a o_forms prime turns lineT lineU kinds upper lower o_numbers q base least table rows lists listSize tried other line makers touches made kindForm kindTurns kindWays) := by rw [← q1, ← q2]; exact hD
    refine W_Qe hQ ?_
    exact W.iret hx hb hr (fun t ht hW => ⟨⟨(-100002 : Int32), (), rfl, q0, by rw [ht]; exact hP, va_K.moved hW.alike hK, hD⟩, hS.F ht⟩) hS.2.2 dX7_form_17
def fX7_isForm (forms : Int32) (p0 : Int32) : Option (Int32) :=
  bd1 (fX7_in p0.toInt64 (0 : Int64) (forms - (1 : Int32)).toInt64) (fun (r_1 : Int32) => if r_1 = 0 ∨ r_1 = 1 then some r_1 else none)
def lkX7_isForm : List Cond := [.fieldLink RX7 158 "KinFormsModel" "forms" "I"]
def vX7_isForm : List Cond := .code yX7_isForm cX7_isForm 2 (some .boolean) :: (lkX7_isForm ++ (wsX70 ++ (va_wsS RX7 147 yX7_in vX7_in ++ ([]))))
theorem q_X7_isForm : ∀ w ∈ vX7_isForm, goodWord w = true := gd_cons rfl (gd_app (by decide +kernel) (gd_app q_wsX70 (gd_app (gd_S q_X7_in) gd_nil)))
theorem g_X7_isForm_X7_in : GoodIn vX7_isForm (va_wsS RX7 147 yX7_in vX7_in) := gi_of (fun w h => List.mem_cons_of_mem _ (List.mem_append_right _ (List.mem_append_right _ (List.mem_append_left _ h)))) (gd_S q_X7_in)
abbrev rmX7_isForm : Room := { frames := 1, cells := 0, slots := 0, locals := 25 }
set_option maxHeartbeats 4000000 in
set_option maxRecDepth 100000 in
theorem c_X7_isForm (l : Launch) (dC : Nat → ClassId) (dI : Nat → Nat → Nat) (cI : ClassId) (cJ : ClassId) (h : Nat) (a : Nat → Nat) (forms : Int32) (prime : Int32) (turns : Int32) (lineT : Int32) (lineU : Int32) (kinds : Int32) (upper : Int64) (lower : Int64) (numbers : Nat → Int32) (q : Nat → Int64) (base : Nat → Int64) (least : Nat → Int64) (table : Nat → Int64) (rows : Nat → Int64) (lists : Nat → Int64) (listSize : Nat → Int32) (tried : Nat → Int64) (other : Nat → Int64) (line : Nat → Int64) (makers : Nat → Int64) (touches : Nat → Int64) (made : Nat → Int64) (kindForm : Nat → Int64) (kindTurns : Nat → Int32) (kindWays : Nat → Int32) (p0 : Int32) (ro : Int32) (hF : fX7_isForm forms p0 = some ro) : Met l yX7_isForm vX7_isForm rmX7_isForm (va_Pc [.ref h, .int p0] (rPc (dC, dI) vwCl (mW cI cJ h a forms prime turns lineT lineU kinds upper lower numbers q base least table rows lists listSize tried other line makers touches made kindForm kindTurns kindWays) [(cI, .int), (cJ, .long)])) (vp_Si (fun x => x = ro)) 0 0 (fun _ => False) := by
  refine Met.ofW (cc := cX7_isForm) (maxL := 2) (ret := (some .boolean)) (by decide) rfl ?_
  intro p e s m args below meth c s₁ B hml hv
  obtain ⟨rfl, hP, hK⟩ := hv
  have hx := B.exec
  have hb := B.bytes
  have hr := B.returns
  have hts := atoms_spec (ws := vX7_isForm) B.pre
  have hlk : ∀ w ∈ lkX7_isForm, w.before _ s = true := fun w h => hts w (List.mem_cons_of_mem _ (List.mem_append_left _ h))
  have hown : s.vm.findClass RX7 = some m.cls := findClass_of_methodNamed B.named
  have hlocks := B.notSynchronized
  have hinX7 : ∀ w ∈ wsX70, w ∈ vX7_isForm := fun w h => List.mem_cons_of_mem _ (List.mem_append_right _ (List.mem_append_left _ h))
  have hf_158 := hlk (.fieldLink RX7 158 "KinFormsModel" "forms" "I") (by decide +kernel)
  have hl := lv_entry ([.ref h, .int p0] : List Value) (n := 2) (Nat.le_of_ble_eq_true rfl)
  rw [lg_entry_eq]
  generalize (lg_sl ([.ref h, .int p0] : List Value) ++ List.replicate (2 - (lg_sl ([.ref h, .int p0] : List Value)).length) Slot.unset).toArray = ls at hl ⊢
  have hl : lv_has ls 2 [(0, .ref h), (1, .int p0)] := hl
  unfold fX7_isForm at hF
  refine W_Q (fun Q hQ => ?_)
  refine lv_iload_n hx hb dX7_isForm_0 rfl (lv_at hl 1 rfl) ?_
  refine lv_i2l (v := p0.toInt64) hx hb dX7_isForm_1 rfl ?_
  refine lv_lconst (v := 0) hx hb dX7_isForm_2 (by decide) ?_
  refine lv_aload_n hx hb dX7_isForm_3 rfl (lv_at hl 0 rfl) ?_
  refine va_get (D := (dC, dI)) (ci := 5) (v := .int forms) (C := RX7) (T := TX7) (N := 25) hx hb hts hinX7 hown hK hP 0 rfl rfl 0 (by decide) hf_158 (fun _ h9 => h9) rfl dX7_isForm_4 ?_
  refine lv_iconst (v := 1) hx hb dX7_isForm_7 (by decide) ?_
  refine lv_isub hx hb dX7_isForm_8 ?_
  refine lv_i2l (v := (forms - (1 : Int32)).toInt64) hx hb dX7_isForm_9 rfl ?_
  obtain ⟨r_1, hc, hF⟩ := bd1_of hF
  refine rc_i (va_runS (As := [.long p0.toInt64, .long (0 : Int64), .long (forms - (1 : Int32)).toInt64]) (rest := []) ⟨hx, hb, hml, hown, hts⟩ (c_X7_in l p0.toInt64 (0 : Int64) (forms - (1 : Int32)).toInt64 r_1 hc) (va_cwS 3 hts g_X7_isForm_X7_in rfl rfl rfl (by decide +kernel) ⟨Nat.le_of_ble_eq_true rfl, Nat.le_of_ble_eq_true rfl⟩) ⟨tPc_blind, tPc_at⟩ rfl rfl hl.1 rfl (lv_room (Nat.le_of_ble_eq_true rfl)) dX7_isForm_10 ⟨Nat.zero_le _, Nat.zero_le _⟩) ?_
  obtain ⟨hz, hF⟩ := ck_of hF
  have q0 := sm1 hF
  refine W_Qe hQ ?_
  exact W.zret (ty := .boolean) hx hb hr (nz_bool hz) (fun t ht hW => ⟨_, rfl, q0, ht⟩) (fun _ h9 => by cases h9) dX7_isForm_13
def fX7_set (forms : Int32) (numbers : Nat → Int32) (p0 : Int32) (p1 : Int32) (p2 : Int32) (p3 : Int32) (p4 : Int32) (p5 : Int32) (p6 : Int32) : Option (Int32 × (Nat → Int32)) :=
  bd1 (fX7_isForm forms p0) (fun (r_1 : Int32) => if r_1 = 0 then (some ((-100001 : Int32), numbers)) else (bd1 (fX7_fits p1 p2 p3 p4 p5 p6) (fun (r_2 : Int32) => if r_2 = 0 then (some ((-100002 : Int32), numbers)) else (bd1 (fX7_become numbers p0 p1 p2 p3 p4 p5 p6) (fun (numbers_3 : Nat → Int32) => some ((1 : Int32), numbers_3))))))
def lkX7_set : List Cond := [.constant RX7 157 (-100002), .constant RX7 170 (-100001)]
def vX7_set : List Cond := .code yX7_set cX7_set 8 (some .int) :: (lkX7_set ++ (wsV RX7 166 RX7 yX7_isForm vX7_isForm ++ (va_wsS RX7 153 yX7_fits vX7_fits ++ (wsV RX7 162 RX7 yX7_become vX7_become ++ ([])))))
theorem q_X7_set : ∀ w ∈ vX7_set, goodWord w = true := gd_cons rfl (gd_app (by decide +kernel) (gd_app (gd_V q_X7_isForm) (gd_app (gd_S q_X7_fits) (gd_app (gd_V q_X7_become) gd_nil))))
theorem g_X7_set_X7_isForm : GoodIn vX7_set (wsV RX7 166 RX7 yX7_isForm vX7_isForm) := gi_of (fun w h => List.mem_cons_of_mem _ (List.mem_append_right _ (List.mem_append_left _ h))) (gd_V q_X7_isForm)
theorem g_X7_set_X7_fits : GoodIn vX7_set (va_wsS RX7 153 yX7_fits vX7_fits) := gi_of (fun w h => List.mem_cons_of_mem _ (List.mem_append_right _ (List.mem_append_right _ (List.mem_append_left _ h)))) (gd_S q_X7_fits)
theorem g_X7_set_X7_become : GoodIn vX7_set (wsV RX7 162 RX7 yX7_become vX7_become) := gi_of (fun w h => List.mem_cons_of_mem _ (List.mem_append_right _ (List.mem_append_right _ (List.mem_append_right _ (List.mem_append_left _ h))))) (gd_V q_X7_become)
abbrev rmX7_set : Room := { frames := 2, cells := 0, slots := 0, locals := 51 }
set_option maxHeartbeats 4000000 in
set_option maxRecDepth 100000 in
theorem c_X7_set (l : Launch) (dC : Nat → ClassId) (dI : Nat → Nat → Nat) (cI : ClassId) (cJ : ClassId) (h : Nat) (a : Nat → Nat) (sz : Nat) (forms : Int32) (prime : Int32) (turns : Int32) (lineT : Int32) (lineU : Int32) (kinds : Int32) (upper : Int64) (lower : Int64) (numbers : Nat → Int32) (q : Nat → Int64) (base : Nat → Int64) (least : Nat → Int64) (table : Nat → Int64) (rows : Nat → Int64) (lists : Nat → Int64) (listSize : Nat → Int32) (tried : Nat → Int64) (other : Nat → Int64) (line : Nat → Int64) (makers : Nat → Int64) (touches : Nat → Int64) (made : Nat → Int64) (kindForm : Nat → Int64) (kindTurns : Nat → Int32) (kindWays : Nat → Int32) (p0 : Int32) (p1 : Int32) (p2 : Int32) (p3 : Int32) (p4 : Int32) (p5 : Int32) (p6 : Int32) (ro : Int32) (o_numbers : Nat → Int32) (hF : fX7_set forms numbers p0 p1 p2 p3 p4 p5 p6 = some (ro, o_numbers)) : Met l yX7_set vX7_set rmX7_set (va_Pc [.ref h, .int p0, .int p1, .int p2, .int p3, .int p4, .int p5, .int p6] (mPc (dC, dI) vwCl (mW cI cJ h a forms prime turns lineT lineU kinds upper lower numbers q base least table rows lists listSize tried other line makers touches made kindForm kindTurns kindWays) [(cI, .int), (cJ, .long)] sz)) (va_Qi (fun x (_ : Unit) => x = ro) (mPo (dC, dI) vwCl (mW cI cJ h a forms prime turns lineT lineU kinds upper lower o_numbers q base least table rows lists listSize tried other line makers touches made kindForm kindTurns kindWays) [(cI, .int), (cJ, .long)] (va_A (mW cI cJ h a forms prime turns lineT lineU kinds upper lower numbers q base least table rows lists listSize tried other line makers touches made kindForm kindTurns kindWays) sz)) (va_A (mW cI cJ h a forms prime turns lineT lineU kinds upper lower numbers q base least table rows lists listSize tried other line makers touches made kindForm kindTurns kindWays) sz)) 0 0 (va_A (mW cI cJ h a forms prime turns lineT lineU kinds upper lower numbers q base least table rows lists listSize tried other line makers touches made kindForm kindTurns kindWays) sz) := by
  refine Met.ofW (cc := cX7_set) (maxL := 8) (ret := (some .int)) (by decide) rfl ?_
  intro p e s m args below meth c s₁ B hml hv
  obtain ⟨rfl, hsz, hP, hK, hD0⟩ := hv
  have hx := B.exec
  have hb := B.bytes
  have hr := B.returns
  have hts := atoms_spec (ws := vX7_set) B.pre
  have hlk : ∀ w ∈ lkX7_set, w.before _ s = true := fun w h => hts w (List.mem_cons_of_mem _ (List.mem_append_left _ h))
  have hown : s.vm.findClass RX7 = some m.cls := findClass_of_methodNamed B.named
  have hlocks := B.notSynchronized
  subst hsz
  have hD := hD0.self (sz := s.heap.size)
  generalize hAe : va_A (mW cI cJ h a forms prime turns lineT lineU kinds upper lower numbers q base least table rows lists listSize tried other line makers touches made kindForm kindTurns kindWays) s.heap.size = A at hD ⊢
  have hA : ∀ q : Nat, s.heap.size ≤ q → A q := fun q h => by rw [← hAe]; exact Or.inr h
  have hS : va_S A s.heap s.heap [] := va_S.rf
  have hl := lv_entry ([.ref h, .int p0, .int p1, .int p2, .int p3, .int p4, .int p5, .int p6] : List Value) (n := 8) (Nat.le_of_ble_eq_true rfl)
  rw [lg_entry_eq]
  generalize (lg_sl ([.ref h, .int p0, .int p1, .int p2, .int p3, .int p4, .int p5, .int p6] : List Value) ++ List.replicate (8 - (lg_sl ([.ref h, .int p0, .int p1, .int p2, .int p3, .int p4, .int p5, .int p6] : List Value)).length) Slot.unset).toArray = ls at hl ⊢
  have hl : lv_has ls 8 [(0, .ref h), (1, .int p0), (2, .int p1), (3, .int p2), (4, .int p3), (5, .int p4), (6, .int p5), (7, .int p6)] := hl
  unfold fX7_set at hF
  refine W_Q (fun Q hQ => ?_)
  have hP : va_P (dC, dI) vwCl (mW cI cJ h a forms prime turns lineT lineU kinds upper lower numbers q base least table rows lists listSize tried other line makers touches made kindForm kindTurns kindWays) s.heap := hP
  refine W_HL (fun H locs eH eL => ?_)
  rw [← eH] at hP
  have hS : va_S A s.heap H locs := by rw [eH, eL]; exact hS
  refine lv_aload_n hx hb dX7_set_0 rfl (lv_at hl 0 rfl) ?_
  refine lv_iload_n hx hb dX7_set_1 rfl (lv_at hl 1 rfl) ?_
  obtain ⟨r_1, hc, hF⟩ := bd1_of hF
  refine rc_i (va_runV (As := [.int p0]) (rest := []) ⟨hx, hb, hml, hown, hts⟩ (c_X7_isForm l dC dI cI cJ h a forms prime turns lineT lineU kinds upper lower numbers q base least table rows lists listSize tried other line makers touches made kindForm kindTurns kindWays p0 r_1 hc) (cwV 1 hts g_X7_set_X7_isForm rfl rfl rfl (by decide +kernel) ⟨Nat.le_of_ble_eq_true rfl, Nat.le_of_ble_eq_true rfl⟩) ⟨rPc_blind, va_recv hK hP (ci := 5) (q0 := 0) rfl rfl, rPc_at hK hP⟩ rfl rfl hl.1 rfl (lv_room (Nat.le_of_ble_eq_true rfl)) dX7_set_2 ⟨Nat.zero_le _, Nat.zero_le _⟩) ?_
  refine lv_if_ne (tgt := 11) hx hb dX7_set_5 (by decide) (fun c0 => ?_) (fun c0 => ?_)
  · have hF := if_f hF c0
    refine lv_iload_n hx hb dX7_set_11 rfl (lv_at hl 2 rfl) ?_
    refine lv_iload_n hx hb dX7_set_12 rfl (lv_at hl 3 rfl) ?_
    refine lv_iload hx hb dX7_set_13 (lv_at hl 4 rfl) ?_
    refine lv_iload hx hb dX7_set_15 (lv_at hl 5 rfl) ?_
    refine lv_iload hx hb dX7_set_17 (lv_at hl 6 rfl) ?_
    refine lv_iload hx hb dX7_set_19 (lv_at hl 7 rfl) ?_
    obtain ⟨r_2, hc, hF⟩ := bd1_of hF
    refine rc_i (va_runS (As := [.int p1, .int p2, .int p3, .int p4, .int p5, .int p6]) (rest := []) ⟨hx, hb, hml, hown, hts⟩ (c_X7_fits l p1 p2 p3 p4 p5 p6 r_2 hc) (va_cwS 6 hts g_X7_set_X7_fits rfl rfl rfl (by decide +kernel) ⟨Nat.le_of_ble_eq_true rfl, Nat.le_of_ble_eq_true rfl⟩) ⟨tPc_blind, tPc_at⟩ rfl rfl hl.1 rfl (lv_room (Nat.le_of_ble_eq_true rfl)) dX7_set_21 ⟨Nat.zero_le _, Nat.zero_le _⟩) ?_
    refine lv_if_ne (tgt := 30) hx hb dX7_set_24 (by decide) (fun c0 => ?_) (fun c0 => ?_)
    · have hF := if_f hF c0
      refine lv_aload_n hx hb dX7_set_30 rfl (lv_at hl 0 rfl) ?_
      refine lv_iload_n hx hb dX7_set_31 rfl (lv_at hl 1 rfl) ?_
      refine lv_iload_n hx hb dX7_set_32 rfl (lv_at hl 2 rfl) ?_
      refine lv_iload_n hx hb dX7_set_33 rfl (lv_at hl 3 rfl) ?_
      refine lv_iload hx hb dX7_set_34 (lv_at hl 4 rfl) ?_
      refine lv_iload hx hb dX7_set_36 (lv_at hl 5 rfl) ?_
      refine lv_iload hx hb dX7_set_38 (lv_at hl 6 rfl) ?_
      refine lv_iload hx hb dX7_set_40 (lv_at hl 7 rfl) ?_
      obtain ⟨numbers_3, hc, hF⟩ := bd1_of hF
      refine mc_v (va_runV (As := [.int p0, .int p1, .int p2, .int p3, .int p4, .int p5, .int p6]) (rest := []) ⟨hx, hb, hml, hown, hts⟩ (c_X7_become l dC dI cI cJ h a H.size forms prime turns lineT lineU kinds upper lower numbers q base least table rows lists listSize tried other line makers touches made kindForm kindTurns kindWays p0 p1 p2 p3 p4 p5 p6 numbers_3 hc) (cwV 7 hts g_X7_set_X7_become rfl rfl rfl (by decide +kernel) ⟨Nat.le_of_ble_eq_true rfl, Nat.le_of_ble_eq_true rfl⟩) ⟨mPc_blind, va_recv hK hP (ci := 5) (q0 := 0) rfl rfl, mPc_at hK hP hD⟩ rfl rfl hl.1 rfl (lv_room (Nat.le_of_ble_eq_true rfl)) dX7_set_42 ⟨Nat.zero_le _, Nat.zero_le _⟩) hS (fr_all hD hS hA) (fun H locs hP hD hS => ?_)
      refine lv_iconst (v := 1) hx hb dX7_set_45 (by decide) ?_
      obtain ⟨q0, q1⟩ := sm2 hF
      have hP : va_P (dC, dI) vwCl (mW cI cJ h a forms prime turns lineT lineU kinds upper lower o_numbers q base least table rows lists listSize tried other line makers touches made kindForm kindTurns kindWays) H := by rw [← q1]; exact hP
      have hD : va_D A (mW cI cJ h a forms prime turns lineT lineU kinds upper lower o_numbers q base least table rows lists listSize tried other line makers touches made kindForm kindTurns kindWays) := by rw [← q1]; exact hD
      refine W_Qe hQ ?_
      exact W.iret hx hb hr (fun t ht hW => ⟨⟨(1 : Int32), (), rfl, q0, by rw [ht]; exact hP, va_K.moved hW.alike hK, hD⟩, hS.F ht⟩) hS.2.2 dX7_set_46
    · have hF := if_t hF c0
      refine lv_ldc (v := (-100002)) hx hb hown (hlk (.constant RX7 157 (-100002)) (by decide +kernel)) dX7_set_27 ?_
      obtain ⟨q0, q1⟩ := sm2 hF
      have hP : va_P (dC, dI) vwCl (mW cI cJ h a forms prime turns lineT lineU kinds upper lower o_numbers q base least table rows lists listSize tried other line makers touches made kindForm kindTurns kindWays) H := by rw [← q1]; exact hP
      have hD : va_D A (mW cI cJ h a forms prime turns lineT lineU kinds upper lower o_numbers q base least table rows lists listSize tried other line makers touches made kindForm kindTurns kindWays) := by rw [← q1]; exact hD
      refine W_Qe hQ ?_
      exact W.iret hx hb hr (fun t ht hW => ⟨⟨(-100002 : Int32), (), rfl, q0, by rw [ht]; exact hP, va_K.moved hW.alike hK, hD⟩, hS.F ht⟩) hS.2.2 dX7_set_29
  · have hF := if_t hF c0
    refine lv_ldc (v := (-100001)) hx hb hown (hlk (.constant RX7 170 (-100001)) (by decide +kernel)) dX7_set_8 ?_
    obtain ⟨q0, q1⟩ := sm2 hF
    have hP : va_P (dC, dI) vwCl (mW cI cJ h a forms prime turns lineT lineU kinds upper lower o_numbers q base least table rows lists listSize tried other line makers touches made kindForm kindTurns kindWays) H := by rw [← q1]; exact hP
    have hD : va_D A (mW cI cJ h a forms prime turns lineT lineU kinds upper lower o_numbers q base least table rows lists listSize tried other line makers touches made kindForm kindTurns kindWays) := by rw [← q1]; exact hD
    refine W_Qe hQ ?_
    exact W.iret hx hb hr (fun t ht hW => ⟨⟨(-100001 : Int32), (), rfl, q0, by rw [ht]; exact hP, va_K.moved hW.alike hK, hD⟩, hS.F ht⟩) hS.2.2 dX7_set_10
def fX7_drop (forms : Int32)  : Option (Int32 × (Int32)) :=
  if forms = 0 then (some ((-100003 : Int32), forms)) else (nm (forms - (1 : Int32)) (fun (forms_1 : Int32) => some (forms_1, forms_1)))
def lkX7_drop : List Cond := [.constant RX7 171 (-100003), .fieldLink RX7 158 "KinFormsModel" "forms" "I"]
def vX7_drop : List Cond := .code yX7_drop cX7_drop 1 (some .int) :: (lkX7_drop ++ (wsX70 ++ ([])))
theorem q_X7_drop : ∀ w ∈ vX7_drop, goodWord w = true := gd_cons rfl (gd_app (by decide +kernel) (gd_app q_wsX70 gd_nil))
abbrev rmX7_drop : Room := { frames := 0, cells := 0, slots := 0, locals := 0 }
set_option maxHeartbeats 4000000 in
set_option maxRecDepth 100000 in
theorem c_X7_drop (l : Launch) (dC : Nat → ClassId) (dI : Nat → Nat → Nat) (cI : ClassId) (cJ : ClassId) (h : Nat) (a : Nat → Nat) (sz : Nat) (forms : Int32) (prime : Int32) (turns : Int32) (lineT : Int32) (lineU : Int32) (kinds : Int32) (upper : Int64) (lower : Int64) (numbers : Nat → Int32) (q : Nat → Int64) (base : Nat → Int64) (least : Nat → Int64) (table : Nat → Int64) (rows : Nat → Int64) (lists : Nat → Int64) (listSize : Nat → Int32) (tried : Nat → Int64) (other : Nat → Int64) (line : Nat → Int64) (makers : Nat → Int64) (touches : Nat → Int64) (made : Nat → Int64) (kindForm : Nat → Int64) (kindTurns : Nat → Int32) (kindWays : Nat → Int32)  (ro : Int32) (o_forms : Int32) (hF : fX7_drop forms = some (ro, o_forms)) : Met l yX7_drop vX7_drop rmX7_drop (va_Pc [.ref h] (mPc (dC, dI) vwCl (mW cI cJ h a forms prime turns lineT lineU kinds upper lower numbers q base least table rows lists listSize tried other line makers touches made kindForm kindTurns kindWays) [(cI, .int), (cJ, .long)] sz)) (va_Qi (fun x (_ : Unit) => x = ro) (mPo (dC, dI) vwCl (mW cI cJ h a o_forms prime turns lineT lineU kinds upper lower numbers q base least table rows lists listSize tried other line makers touches made kindForm kindTurns kindWays) [(cI, .int), (cJ, .long)] (va_A (mW cI cJ h a forms prime turns lineT lineU kinds upper lower numbers q base least table rows lists listSize tried other line makers touches made kindForm kindTurns kindWays) sz)) (va_A (mW cI cJ h a forms prime turns lineT lineU kinds upper lower numbers q base least table rows lists listSize tried other line makers touches made kindForm kindTurns kindWays) sz)) 0 0 (va_A (mW cI cJ h a forms prime turns lineT lineU kinds upper lower numbers q base least table rows lists listSize tried other line makers touches made kindForm kindTurns kindWays) sz) := by
  refine Met.ofW (cc := cX7_drop) (maxL := 1) (ret := (some .int)) (by decide) rfl ?_
  intro p e s m args below meth c s₁ B hml hv
  obtain ⟨rfl, hsz, hP, hK, hD0⟩ := hv
  have hx := B.exec
  have hb := B.bytes
  have hr := B.returns
  have hts := atoms_spec (ws := vX7_drop) B.pre
  have hlk : ∀ w ∈ lkX7_drop, w.before _ s = true := fun w h => hts w (List.mem_cons_of_mem _ (List.mem_append_left _ h))
  have hown : s.vm.findClass RX7 = some m.cls := findClass_of_methodNamed B.named
  have hlocks := B.notSynchronized
  subst hsz
  have hD := hD0.self (sz := s.heap.size)
  generalize hAe : va_A (mW cI cJ h a forms prime turns lineT lineU kinds upper lower numbers q base least table rows lists listSize tried other line makers touches made kindForm kindTurns kindWays) s.heap.size = A at hD ⊢
  have hA : ∀ q : Nat, s.heap.size ≤ q → A q := fun q h => by rw [← hAe]; exact Or.inr h
  have hS : va_S A s.heap s.heap [] := va_S.rf
  have hinX7 : ∀ w ∈ wsX70, w ∈ vX7_drop := fun w h => List.mem_cons_of_mem _ (List.mem_append_right _ (List.mem_append_left _ h))
  have hf_158 := hlk (.fieldLink RX7 158 "KinFormsModel" "forms" "I") (by decide +kernel)
  have hl := lv_entry ([.ref h] : List Value) (n := 1) (Nat.le_of_ble_eq_true rfl)
  rw [lg_entry_eq]
  generalize (lg_sl ([.ref h] : List Value) ++ List.replicate (1 - (lg_sl ([.ref h] : List Value)).length) Slot.unset).toArray = ls at hl ⊢
  have hl : lv_has ls 1 [(0, .ref h)] := hl
  unfold fX7_drop at hF
  refine W_Q (fun Q hQ => ?_)
  have hP : va_P (dC, dI) vwCl (mW cI cJ h a forms prime turns lineT lineU kinds upper lower numbers q base least table rows lists listSize tried other line makers touches made kindForm kindTurns kindWays) s.heap := hP
  refine W_HL (fun H locs eH eL => ?_)
  rw [← eH] at hP
  have hS : va_S A s.heap H locs := by rw [eH, eL]; exact hS
  refine lv_aload_n hx hb dX7_drop_0 rfl (lv_at hl 0 rfl) ?_
  refine va_get (D := (dC, dI)) (ci := 5) (v := .int forms) (C := RX7) (T := TX7) (N := 25) hx hb hts hinX7 hown hK hP 0 rfl rfl 0 (by decide) hf_158 (fun _ h9 => h9) rfl dX7_drop_1 ?_
  refine lv_if_ne (tgt := 10) hx hb dX7_drop_4 (by decide) (fun c0 => ?_) (fun c0 => ?_)
  · have hF := if_f hF c0
    refine lv_aload_n hx hb dX7_drop_10 rfl (lv_at hl 0 rfl) ?_
    refine lv_dup hx hb dX7_drop_11 rfl ?_
    refine va_get (D := (dC, dI)) (ci := 5) (v := .int forms) (C := RX7) (T := TX7) (N := 25) hx hb hts hinX7 hown hK hP 0 rfl rfl 0 (by decide) hf_158 (fun _ h9 => h9) rfl dX7_drop_12 ?_
    refine lv_iconst (v := 1) hx hb dX7_drop_15 (by decide) ?_
    refine lv_isub hx hb dX7_drop_16 ?_
    refine lv_topi (fun forms_1 e_forms_1 => ?_)
    have hF := nm_at hF e_forms_1
    refine va_put (D := (dC, dI)) (ci := 5) (v := .int forms_1) (ty := .int) (C := RX7) (T := TX7) (N := 25) hx hb hts hinX7 tyX7 tyX7_ok nmX7 hown hK hP hD hS 0 rfl rfl 0 (by decide) hf_158 (fun _ h9 => h9) rfl (by decide +kernel) rfl rfl (Nat.le_of_ble_eq_true rfl) dX7_drop_17 (fun H locs hP hD hS => ?_)
    have hP : va_P (dC, dI) vwCl (mW cI cJ h a forms_1 prime turns lineT lineU kinds upper lower numbers q base least table rows lists listSize tried other line makers touches made kindForm kindTurns kindWays) H := hP
    have hD : va_D A (mW cI cJ h a forms_1 prime turns lineT lineU kinds upper lower numbers q base least table rows lists listSize tried other line makers touches made kindForm kindTurns kindWays) := hD
    refine lv_aload_n hx hb dX7_drop_20 rfl (lv_at hl 0 rfl) ?_
    refine va_get (D := (dC, dI)) (ci := 5) (v := .int forms_1) (C := RX7) (T := TX7) (N := 25) hx hb hts hinX7 hown hK hP 0 rfl rfl 0 (by decide) hf_158 (fun _ h9 => h9) rfl dX7_drop_21 ?_
    obtain ⟨q0, q1⟩ := sm2 hF
    have hP : va_P (dC, dI) vwCl (mW cI cJ h a o_forms prime turns lineT lineU kinds upper lower numbers q base least table rows lists listSize tried other line makers touches made kindForm kindTurns kindWays) H := by rw [← q1]; exact hP
    have hD : va_D A (mW cI cJ h a o_forms prime turns lineT lineU kinds upper lower numbers q base least table rows lists listSize tried other line makers touches made kindForm kindTurns kindWays) := by rw [← q1]; exact hD
    refine W_Qe hQ ?_
    exact W.iret hx hb hr (fun t ht hW => ⟨⟨forms_1, (), rfl, q0, by rw [ht]; exact hP, va_K.moved hW.alike hK, hD⟩, hS.F ht⟩) hS.2.2 dX7_drop_24
  · have hF := if_t hF c0
    refine lv_ldc (v := (-100003)) hx hb hown (hlk (.constant RX7 171 (-100003)) (by decide +kernel)) dX7_drop_7 ?_
    obtain ⟨q0, q1⟩ := sm2 hF
    have hP : va_P (dC, dI) vwCl (mW cI cJ h a o_forms prime turns lineT lineU kinds upper lower numbers q base least table rows lists listSize tried other line makers touches made kindForm kindTurns kindWays) H := by rw [← q1]; exact hP
    have hD : va_D A (mW cI cJ h a o_forms prime turns lineT lineU kinds upper lower numbers q base least table rows lists listSize tried other line makers touches made kindForm kindTurns kindWays) := by rw [← q1]; exact hD
    refine W_Qe hQ ?_
    exact W.iret hx hb hr (fun t ht hW => ⟨⟨(-100003 : Int32), (), rfl, q0, by rw [ht]; exact hP, va_K.moved hW.alike hK, hD⟩, hS.F ht⟩) hS.2.2 dX7_drop_9
def fX7_told (fu : Nat) (forms : Int32) (turns : Int32) (numbers : Nat → Int32) (q : Nat → Int64) (base : Nat → Int64) (least : Nat → Int64) (table : Nat → Int64) (rows : Nat → Int64) (lists : Nat → Int64) (listSize : Nat → Int32) (tried : Nat → Int64) (p0 : Int32) (p1 : Int32) : Option (Int32 × (Int32) × (Nat → Int64) × (Nat → Int64) × (Nat → Int64) × (Nat → Int64) × (Nat → Int64) × (Nat → Int64) × (Nat → Int32) × (Nat → Int64)) :=
  bd1 (fX7_isForm forms p0) (fun (r_1 : Int32) => if r_1 = 0 then (some ((-100001 : Int32), turns, q, base, least, table, rows, lists, listSize, tried)) else (bd1 (fX7_in p1.toInt64 (0 : Int64) (13 : Int64)) (fun (r_2 : Int32) => if r_2 = 0 then (some ((-100002 : Int32), turns, q, base, least, table, rows, lists, listSize, tried)) else (bd1 (fX7_hold fu numbers q p0) (fun (q_3 : Nat → Int64) => if (7 : Int32) ≤ p1 then (bd9 (fX7_findLeast fu q_3 base least table rows lists listSize tried) (fun (turns_4 : Int32) (q_5 : Nat → Int64) (base_6 : Nat → Int64) (least_7 : Nat → Int64) (table_8 : Nat → Int64) (rows_9 : Nat → Int64) (lists_10 : Nat → Int64) (listSize_11 : Nat → Int32) (tried_12 : Nat → Int64) => nm (fun (s_14 : Int32) => some (s_14, turns_4, q_5, base_6, least_7, table_8, rows_9, lists_10, listSize_11, tried_12)) (fun (k90 : (Int32) → Option (Int32 × (Int32) × (Nat → Int64) × (Nat → Int64) × (Nat → Int64) × (Nat → Int64) × (Nat → Int64) × (Nat → Int64) × (Nat → Int32) × (Nat → Int64))) => if (13 : Int32) ≤ p1 then ((k90 turns_4)) else (nm (p1 - (7 : Int32)) (fun (v_13 : Int32) => if okI v_13 6 then (k90 (least_7 v_13.toNatClampNeg).toInt32) else none))))) else (nm (fun (s_17 : Int32) => some (s_17, turns, q_3, base, least, table, rows, lists, listSize, tried)) (fun (k62 : (Int32) → Option (Int32 × (Int32) × (Nat → Int64) × (Nat → Int64) × (Nat → Int64) × (Nat → Int64) × (Nat → Int64) × (Nat → Int64) × (Nat → Int32) × (Nat → Int64))) => if (6 : Int32) ≤ p1 then (bd1 (fX7_disc q_3) (fun (r_15 : Int64) => (k62 r_15.toInt32))) else (nm (((6 : Int32) * p0) + p1) (fun (v_16 : Int32) => if okI v_16 72 then (k62 (numbers v_16.toNatClampNeg)) else none)))))))))
def lkX7_told : List Cond := [.constantLong RX7 172 (13), .constant RX7 157 (-100002), .constant RX7 170 (-100001), .fieldLink RX7 110 "KinFormsModel" "turns" "I", .fieldLink RX7 24 "KinFormsModel" "least" "[J", .fieldLink RX7 7 "KinFormsModel" "numbers" "[I"]
def vX7_told : List Cond := .code yX7_told cX7_told 3 (some .int) :: (lkX7_told ++ (wsX70 ++ (wsV RX7 166 RX7 yX7_isForm vX7_isForm ++ (va_wsS RX7 147 yX7_in vX7_in ++ (wsV RX7 138 RX7 yX7_hold vX7_hold ++ (wsV RX7 142 RX7 yX7_findLeast vX7_findLeast ++ (wsV RX7 74 RX7 yX7_disc vX7_disc ++ ([]))))))))
theorem q_X7_told : ∀ w ∈ vX7_told, goodWord w = true := gd_cons rfl (gd_app (by decide +kernel) (gd_app q_wsX70 (gd_app (gd_V q_X7_isForm) (gd_app (gd_S q_X7_in) (gd_app (gd_V q_X7_hold) (gd_app (gd_V q_X7_findLeast) (gd_app (gd_V q_X7_disc) gd_nil)))))))
theorem g_X7_told_X7_isForm : GoodIn vX7_told (wsV RX7 166 RX7 yX7_isForm vX7_isForm) := gi_of (fun w h => List.mem_cons_of_mem _ (List.mem_append_right _ (List.mem_append_right _ (List.mem_append_left _ h)))) (gd_V q_X7_isForm)
theorem g_X7_told_X7_in : GoodIn vX7_told (va_wsS RX7 147 yX7_in vX7_in) := gi_of (fun w h => List.mem_cons_of_mem _ (List.mem_append_right _ (List.mem_append_right _ (List.mem_append_right _ (List.mem_append_left _ h))))) (gd_S q_X7_in)
theorem g_X7_told_X7_hold : GoodIn vX7_told (wsV RX7 138 RX7 yX7_hold vX7_hold) := gi_of (fun w h => List.mem_cons_of_mem _ (List.mem_append_right _ (List.mem_append_right _ (List.mem_append_right _ (List.mem_append_right _ (List.mem_append_left _ h)))))) (gd_V q_X7_hold)
theorem g_X7_told_X7_findLeast : GoodIn vX7_told (wsV RX7 142 RX7 yX7_findLeast vX7_findLeast) := gi_of (fun w h => List.mem_cons_of_mem _ (List.mem_append_right _ (List.mem_append_right _ (List.mem_append_right _ (List.mem_append_right _ (List.mem_append_right _ (List.mem_append_left _ h))))))) (gd_V q_X7_findLeast)
theorem g_X7_told_X7_disc : GoodIn vX7_told (wsV RX7 74 RX7 yX7_disc vX7_disc) := gi_of (fun w h => List.mem_cons_of_mem _ (List.mem_append_right _ (List.mem_append_right _ (List.mem_append_right _ (List.mem_append_right _ (List.mem_append_right _ (List.mem_append_right _ (List.mem_append_left _ h)))))))) (gd_V q_X7_disc)
abbrev rmX7_told : Room := { frames := 5, cells := 0, slots := 0, locals := 139 }
set_option maxHeartbeats 4000000 in
set_option maxRecDepth 100000 in
theorem c_X7_told (l : Launch) (dC : Nat → ClassId) (dI : Nat → Nat → Nat) (cI : ClassId) (cJ : ClassId) (h : Nat) (a : Nat → Nat) (fu : Nat) (sz : Nat) (forms : Int32) (prime : Int32) (turns : Int32) (lineT : Int32) (lineU : Int32) (kinds : Int32) (upper : Int64) (lower : Int64) (numbers : Nat → Int32) (q : Nat → Int64) (base : Nat → Int64) (least : Nat → Int64) (table : Nat → Int64) (rows : Nat → Int64) (lists : Nat → Int64) (listSize : Nat → Int32) (tried : Nat → Int64) (other : Nat → Int64) (line : Nat → Int64) (makers : Nat → Int64) (touches : Nat → Int64) (made : Nat → Int64) (kindForm : Nat → Int64) (kindTurns : Nat → Int32) (kindWays : Nat → Int32) (p0 : Int32) (p1 : Int32) (ro : Int32) (o_turns : Int32) (o_q : Nat → Int64) (o_base : Nat → Int64) (o_least : Nat → Int64) (o_table : Nat → Int64) (o_rows : Nat → Int64) (o_lists : Nat → Int64) (o_listSize : Nat → Int32) (o_tried : Nat → Int64) (hF : fX7_told fu forms turns numbers q base least table rows lists listSize tried p0 p1 = some (ro, o_turns, o_q, o_base, o_least, o_table, o_rows, o_lists, o_listSize, o_tried)) : Met l yX7_told vX7_told rmX7_told (va_Pc [.ref h, .int p0, .int p1] (mPc (dC, dI) vwCl (mW cI cJ h a forms prime turns lineT lineU kinds upper lower numbers q base least table rows lists listSize tried other line makers touches made kindForm kindTurns kindWays) [(cI, .int), (cJ, .long)] sz)) (va_Qi (fun x (_ : Unit) => x = ro) (mPo (dC, dI) vwCl (mW cI cJ h a forms prime o_turns lineT lineU kinds upper lower numbers o_q o_base o_least o_table o_rows o_lists o_listSize o_tried other line makers touches made kindForm kindTurns kindWays) [(cI, .int), (cJ, .long)] (va_A (mW cI cJ h a forms prime turns lineT lineU kinds upper lower numbers q base least table rows lists listSize tried other line makers touches made kindForm kindTurns kindWays) sz)) (va_A (mW cI cJ h a forms prime turns lineT lineU kinds upper lower numbers q base least table rows lists listSize tried other line makers touches made kindForm kindTurns kindWays) sz)) 0 0 (va_A (mW cI cJ h a forms prime turns lineT lineU kinds upper lower numbers q base least table rows lists listSize tried other line makers touches made kindForm kindTurns kindWays) sz) := by
  refine Met.ofW (cc := cX7_told) (maxL := 3) (ret := (some .int)) (by decide) rfl ?_
  intro p e s m args below meth c s₁ B hml hv
  obtain ⟨rfl, hsz, hP, hK, hD0⟩ := hv
  have hx := B.exec
  have hb := B.bytes
  have hr := B.returns
  have hts := atoms_spec (ws := vX7_told) B.pre
  have hlk : ∀ w ∈ lkX7_told, w.before _ s = true := fun w h => hts w (List.mem_cons_of_mem _ (List.mem_append_left _ h))
  have hown : s.vm.findClass RX7 = some m.cls := findClass_of_methodNamed B.named
  have hlocks := B.notSynchronized
  subst hsz
  have hD := hD0.self (sz := s.heap.size)
  generalize hAe : va_A (mW cI cJ h a forms prime turns lineT lineU kinds upper lower numbers q base least table rows lists listSize tried other line makers touches made kindForm kindTurns kindWays) s.heap.size = A at hD ⊢
  have hA : ∀ q : Nat, s.heap.size ≤ q → A q := fun q h => by rw [← hAe]; exact Or.inr h
  have hS : va_S A s.heap s.heap [] := va_S.rf
  have hinX7 : ∀ w ∈ wsX70, w ∈ vX7_told := fun w h => List.mem_cons_of_mem _ (List.mem_append_right _ (List.mem_append_left _ h))
  have hf_110 := hlk (.fieldLink RX7 110 "KinFormsModel" "turns" "I") (by decide +kernel)
  have hf_24 := hlk (.fieldLink RX7 24 "KinFormsModel" "least" "[J") (by decide +kernel)
  have hf_7 := hlk (.fieldLink RX7 7 "KinFormsModel" "numbers" "[I") (by decide +kernel)
  have hl := lv_entry ([.ref h, .int p0, .int p1] : List Value) (n := 3) (Nat.le_of_ble_eq_true rfl)
  rw [lg_entry_eq]
  generalize (lg_sl ([.ref h, .int p0, .int p1] : List Value) ++ List.replicate (3 - (lg_sl ([.ref h, .int p0, .int p1] : List Value)).length) Slot.unset).toArray = ls at hl ⊢
  have hl : lv_has ls 3 [(0, .ref h), (1, .int p0), (2, .int p1)] := hl
  unfold fX7_told at hF
  refine W_Q (fun Q hQ => ?_)
  have hP : va_P (dC, dI) vwCl (mW cI cJ h a forms prime turns lineT lineU kinds upper lower numbers q base least table rows lists listSize tried other line makers touches made kindForm kindTurns kindWays) s.heap := hP
  refine W_HL (fun H locs eH eL => ?_)
  rw [← eH] at hP
  have hS : va_S A s.heap H locs := by rw [eH, eL]; exact hS
  refine lv_aload_n hx hb dX7_told_0 rfl (lv_at hl 0 rfl) ?_
  refine lv_iload_n hx hb dX7_told_1 rfl (lv_at hl 1 rfl) ?_
  obtain ⟨r_1, hc, hF⟩ := bd1_of hF
  refine rc_i (va_runV (As := [.int p0]) (rest := []) ⟨hx, hb, hml, hown, hts⟩ (c_X7_isForm l dC dI cI cJ h a forms prime turns lineT lineU kinds upper lower numbers q base least table rows lists listSize tried other line makers touches made kindForm kindTurns kindWays p0 r_1 hc) (cwV 1 hts g_X7_told_X7_isForm rfl rfl rfl (by decide +kernel) ⟨Nat.le_of_ble_eq_true rfl, Nat.le_of_ble_eq_true rfl⟩) ⟨rPc_blind, va_recv hK hP (ci := 5) (q0 := 0) rfl rfl, rPc_at hK hP⟩ rfl rfl hl.1 rfl (lv_room (Nat.le_of_ble_eq_true rfl)) dX7_told_2 ⟨Nat.zero_le _, Nat.zero_le _⟩) ?_
  refine lv_if_ne (tgt := 11) hx hb dX7_told_5 (by decide) (fun c0 => ?_) (fun c0 => ?_)
  · have hF := if_f hF c0
    refine lv_iload_n hx hb dX7_told_11 rfl (lv_at hl 2 rfl) ?_
    refine lv_i2l (v := p1.toInt64) hx hb dX7_told_12 rfl ?_
    refine lv_lconst (v := 0) hx hb dX7_told_13 (by decide) ?_
    refine lv_ldc2 (v := (13)) hx hb hown (hlk (.constantLong RX7 172 (13)) (by decide +kernel)) dX7_told_14 ?_
    obtain ⟨r_2, hc, hF⟩ := bd1_of hF
    refine rc_i (va_runS (As := [.long p1.toInt64, .long (0 : Int64), .long (13 : Int64)]) (rest := []) ⟨hx, hb, hml, hown, hts⟩ (c_X7_in l p1.toInt64 (0 : Int64) (13 : Int64) r_2 hc) (va_cwS 3 hts g_X7_told_X7_in rfl rfl rfl (by decide +kernel) ⟨Nat.le_of_ble_eq_true rfl, Nat.le_of_ble_eq_true rfl⟩) ⟨tPc_blind, tPc_at⟩ rfl rfl hl.1 rfl (lv_room (Nat.le_of_ble_eq_true rfl)) dX7_told_17 ⟨Nat.zero_le _, Nat.zero_le _⟩) ?_
    refine lv_if_ne (tgt := 26) hx hb dX7_told_20 (by decide) (fun c0 => ?_) (fun c0 => ?_)
    · have hF := if_f hF c0
      refine lv_aload_n hx hb dX7_told_26 rfl (lv_at hl 0 rfl) ?_
      refine lv_iload_n hx hb dX7_told_27 rfl (lv_at hl 1 rfl) ?_
      obtain ⟨q_3, hc, hF⟩ := bd1_of hF
      refine mc_v (va_runV (As := [.int p0]) (rest := []) ⟨hx, hb, hml, hown, hts⟩ (c_X7_hold l dC dI cI cJ h a fu H.size forms prime turns lineT lineU kinds upper lower numbers q base least table rows lists listSize tried other line makers touches made kindForm kindTurns kindWays p0 q_3 hc) (cwV 1 hts g_X7_told_X7_hold rfl rfl rfl (by decide +kernel) ⟨Nat.le_of_ble_eq_true rfl, Nat.le_of_ble_eq_true rfl⟩) ⟨mPc_blind, va_recv hK hP (ci := 5) (q0 := 0) rfl rfl, mPc_at hK hP hD⟩ rfl rfl hl.1 rfl (lv_room (Nat.le_of_ble_eq_true rfl)) dX7_told_28 ⟨Nat.zero_le _, Nat.zero_le _⟩) hS (fr_all hD hS hA) (fun H locs hP hD hS => ?_)
      refine lv_iload_n hx hb dX7_told_31 rfl (lv_at hl 2 rfl) ?_
      refine lv_bipush (v := (7)) hx hb dX7_told_32 (by decide) ?_
      refine lv_icmp_ge (tgt := 63) hx hb dX7_told_34 (by decide) (fun c0 => ?_) (fun c0 => ?_)
      · have hF := if_t hF c0
        refine lv_aload_n hx hb dX7_told_63 rfl (lv_at hl 0 rfl) ?_
        obtain ⟨turns_4, q_5, base_6, least_7, table_8, rows_9, lists_10, listSize_11, tried_12, hc, hF⟩ := bd9_of hF
        refine mc_v (va_runV (As := []) (rest := []) ⟨hx, hb, hml, hown, hts⟩ (c_X7_findLeast l dC dI cI cJ h a fu H.size forms prime turns lineT lineU kinds upper lower numbers q_3 base least table rows lists listSize tried other line makers touches made kindForm kindTurns kindWays  turns_4 q_5 base_6 least_7 table_8 rows_9 lists_10 listSize_11 tried_12 hc) (cwV 0 hts g_X7_told_X7_findLeast rfl rfl rfl (by decide +kernel) ⟨Nat.le_of_ble_eq_true rfl, Nat.le_of_ble_eq_true rfl⟩) ⟨mPc_blind, va_recv hK hP (ci := 5) (q0 := 0) rfl rfl, mPc_at hK hP hD⟩ rfl rfl hl.1 rfl (lv_room (Nat.le_of_ble_eq_true rfl)) dX7_told_64 ⟨Nat.zero_le _, Nat.zero_le _⟩) hS (fr_all hD hS hA) (fun H locs hP hD hS => ?_)
        refine lv_iload_n hx hb dX7_told_67 rfl (lv_at hl 2 rfl) ?_
        refine lv_bipush (v := (13)) hx hb dX7_told_68 (by decide) ?_
        obtain ⟨k90, e_k90, hF⟩ := nm_ex hF
        have hk90 : ∀ (s_14 : Int32) (H : Heap) (locs : List Loc) (ls : Array Slot), va_P (dC, dI) vwCl (mW cI cJ h a forms prime turns_4 lineT lineU kinds upper lower numbers q_5 base_6 least_7 table_8 rows_9 lists_10 listSize_11 tried_12 other line makers touches made kindForm kindTurns kindWays) H → va_D A (mW cI cJ h a forms prime turns_4 lineT lineU kinds upper lower numbers q_5 base_6 least_7 table_8 rows_9 lists_10 listSize_11 tried_12 other line makers touches made kindForm kindTurns kindWays) → va_S A s.heap H locs → lv_has ls 3 [] → k90 s_14 = some (ro, o_turns, o_q, o_base, o_least, o_table, o_rows, o_lists, o_listSize, o_tried) → W p l e rmX7_told s m ([.ref h, .int p0, .int p1] : List Value).toArray below meth c H locs 0 0 Q (F0 m 90 ls [.int s_14]) := by
          intro s_14 H locs ls hP hD hS hl hF
          have hF := ka1 e_k90 hF
          obtain ⟨q0, q1, q2, q3, q4, q5, q6, q7, q8, q9⟩ := sm10 hF
          have hP : va_P (dC, dI) vwCl (mW cI cJ h a forms prime o_turns lineT lineU kinds upper lower numbers o_q o_base o_least o_table o_rows o_lists o_listSize o_tried other line makers touches made kindForm kindTurns kindWays) H := by rw [← q1, ← q2, ← q3, ← q4, ← q5, ← q6, ← q7, ← q8, ← q9]; exact hP
          have hD : va_D A (mW cI cJ h a forms prime o_turns lineT lineU kinds upper lower numbers o_q o_base o_least o_table o_rows o_lists o_listSize o_tried other line makers touches made kindForm kindTurns kindWays) := by rw [← q1, ← q2, ← q3, ← q4, ← q5, ← q6, ← q7, ← q8, ← q9]; exact hD
          refine W_Qe hQ ?_
          exact W.iret hx hb hr (fun t ht hW => ⟨⟨s_14, (), rfl, q0, by rw [ht]; exact hP, va_K.moved hW.alike hK, hD⟩, hS.F ht⟩) hS.2.2 dX7_told_90
        clear e_k90
        refine lv_icmp_ge (tgt := 86) hx hb dX7_told_70 (by decide) (fun c0 => ?_) (fun c0 => ?_)
        · have hF := if_t hF c0
          refine lv_aload_n hx hb dX7_told_86 rfl (lv_at hl 0 rfl) ?_
          refine va_get (D := (dC, dI)) (ci := 5) (v := .int turns_4) (C := RX7) (T := TX7) (N := 25) hx hb hts hinX7 hown hK hP 0 rfl rfl 6 (by decide) hf_110 (fun _ h9 => h9) rfl dX7_told_87 ?_
          exact hk90 turns_4 H locs ls hP hD hS (lv_sub hl [] rfl) hF
        · have hF := if_f hF c0
          refine lv_aload_n hx hb dX7_told_73 rfl (lv_at hl 0 rfl) ?_
          refine va_get (D := (dC, dI)) (ci := 5) (v := .ref (a 4)) (C := RX7) (T := TX7) (N := 25) hx hb hts hinX7 hown hK hP 0 rfl rfl 5 (by decide) hf_24 (fun _ h9 => h9) rfl dX7_told_74 ?_
          refine lv_iload_n hx hb dX7_told_77 rfl (lv_at hl 2 rfl) ?_
          refine lv_bipush (v := (7)) hx hb dX7_told_78 (by decide) ?_
          refine lv_isub hx hb dX7_told_80 ?_
          refine lv_topi (fun v_13 e_v_13 => ?_)
          have hF := nm_at hF e_v_13
          obtain ⟨hi, hF⟩ := ck_of hF
          refine va_lald hx hb hK hP 4 1 rfl rfl hi dX7_told_81 ?_
          refine lv_l2i (v := (least_7 v_13.toNatClampNeg).toInt32) hx hb dX7_told_82 rfl ?_
          refine lv_goto (tgt := 90) hx hb dX7_told_83 (by decide) ?_
          exact hk90 (least_7 v_13.toNatClampNeg).toInt32 H locs ls hP hD hS (lv_sub hl [] rfl) hF
      · have hF := if_f hF c0
        refine lv_iload_n hx hb dX7_told_37 rfl (lv_at hl 2 rfl) ?_
        refine lv_bipush (v := (6)) hx hb dX7_told_38 (by decide) ?_
        obtain ⟨k62, e_k62, hF⟩ := nm_ex hF
        have hk62 : ∀ (s_17 : Int32) (H : Heap) (locs : List Loc) (ls : Array Slot), va_P (dC, dI) vwCl (mW cI cJ h a forms prime turns lineT lineU kinds upper lower numbers q_3 base least table rows lists listSize tried other line makers touches made kindForm kindTurns kindWays) H → va_D A (mW cI cJ h a forms prime turns lineT lineU kinds upper lower numbers q_3 base least table rows lists listSize tried other line makers touches made kindForm kindTurns kindWays) → va_S A s.heap H locs → lv_has ls 3 [] → k62 s_17 = some (ro, o_turns, o_q, o_base, o_least, o_table, o_rows, o_lists, o_listSize, o_tried) → W p l e rmX7_told s m ([.ref h, .int p0, .int p1] : List Value).toArray below meth c H locs 0 0 Q (F0 m 62 ls [.int s_17]) := by
          intro s_17 H locs ls hP hD hS hl hF
          have hF := ka1 e_k62 hF
          obtain ⟨q0, q1, q2, q3, q4, q5, q6, q7, q8, q9⟩ := sm10 hF
          have hP : va_P (dC, dI) vwCl (mW cI cJ h a forms prime o_turns lineT lineU kinds upper lower numbers o_q o_base o_least o_table o_rows o_lists o_listSize o_tried other line makers touches made kindForm kindTurns kindWays) H := by rw [← q1, ← q2, ← q3, ← q4, ← q5, ← q6, ← q7, ← q8, ← q9]; exact hP
          have hD : va_D A (mW cI cJ h a forms prime o_turns lineT lineU kinds upper lower numbers o_q o_base o_least o_table o_rows o_lists o_listSize o_tried other line makers touches made kindForm kindTurns kindWays) := by rw [← q1, ← q2, ← q3, ← q4, ← q5, ← q6, ← q7, ← q8, ← q9]; exact hD
          refine W_Qe hQ ?_
          exact W.iret hx hb hr (fun t ht hW => ⟨⟨s_17, (), rfl, q0, by rw [ht]; exact hP, va_K.moved hW.alike hK, hD⟩, hS.F ht⟩) hS.2.2 dX7_told_62
        clear e_k62
        refine lv_icmp_ge (tgt := 57) hx hb dX7_told_40 (by decide) (fun c0 => ?_) (fun c0 => ?_)
        · have hF := if_t hF c0
          refine lv_aload_n hx hb dX7_told_57 rfl (lv_at hl 0 rfl) ?_
          obtain ⟨r_15, hc, hF⟩ := bd1_of hF
          refine rc_l (va_runV (As := []) (rest := []) ⟨hx, hb, hml, hown, hts⟩ (c_X7_disc l dC dI cI cJ h a forms prime turns lineT lineU kinds upper lower numbers q_3 base least table rows lists listSize tried other line makers touches made kindForm kindTurns kindWays  r_15 hc) (cwV 0 hts g_X7_told_X7_disc rfl rfl rfl (by decide +kernel) ⟨Nat.le_of_ble_eq_true rfl, Nat.le_of_ble_eq_true rfl⟩) ⟨rPc_blind, va_recv hK hP (ci := 5) (q0 := 0) rfl rfl, rPc_at hK hP⟩ rfl rfl hl.1 rfl (lv_room (Nat.le_of_ble_eq_true rfl)) dX7_told_58 ⟨Nat.zero_le _, Nat.zero_le _⟩) ?_
          refine lv_l2i (v := r_15.toInt32) hx hb dX7_told_61 rfl ?_
          exact hk62 (r_15.toInt32) H locs ls hP hD hS (lv_sub hl [] rfl) hF
        · have hF := if_f hF c0
          refine lv_aload_n hx hb dX7_told_43 rfl (lv_at hl 0 rfl) ?_
          refine va_get (D := (dC, dI)) (ci := 5) (v := .ref (a 1)) (C := RX7) (T := TX7) (N := 25) hx hb hts hinX7 hown hK hP 0 rfl rfl 1 (by decide) hf_7 (fun _ h9 => h9) rfl dX7_told_44 ?_
          refine lv_bipush (v := (6)) hx hb dX7_told_47 (by decide) ?_
          refine lv_iload_n hx hb dX7_told_49 rfl (lv_at hl 1 rfl) ?_
          refine lv_imul hx hb dX7_told_50 ?_
          refine lv_iload_n hx hb dX7_told_51 rfl (lv_at hl 2 rfl) ?_
          refine lv_iadd hx hb dX7_told_52 ?_
          refine lv_topi (fun v_16 e_v_16 => ?_)
          have hF := nm_at hF e_v_16
          obtain ⟨hi, hF⟩ := ck_of hF
          refine va_iald hx hb hK hP 1 0 rfl rfl hi dX7_told_53 ?_
          refine lv_goto (tgt := 62) hx hb dX7_told_54 (by decide) ?_
          exact hk62 (numbers v_16.toNatClampNeg) H locs ls hP hD hS (lv_sub hl [] rfl) hF
    · have hF := if_t hF c0
      refine lv_ldc (v := (-100002)) hx hb hown (hlk (.constant RX7 157 (-100002)) (by decide +kernel)) dX7_told_23 ?_
      obtain ⟨q0, q1, q2, q3, q4, q5, q6, q7, q8, q9⟩ := sm10 hF
      have hP : va_P (dC, dI) vwCl (mW cI cJ h a forms prime o_turns lineT lineU kinds upper lower numbers o_q o_base o_least o_table o_rows o_lists o_listSize o_tried other line makers touches made kindForm kindTurns kindWays) H := by rw [← q1, ← q2, ← q3, ← q4, ← q5, ← q6, ← q7, ← q8, ← q9]; exact hP
      have hD : va_D A (mW cI cJ h a forms prime o_turns lineT lineU kinds upper lower numbers o_q o_base o_least o_table o_rows o_lists o_listSize o_tried other line makers touches made kindForm kindTurns kindWays) := by rw [← q1, ← q2, ← q3, ← q4, ← q5, ← q6, ← q7, ← q8, ← q9]; exact hD
      refine W_Qe hQ ?_
      exact W.iret hx hb hr (fun t ht hW => ⟨⟨(-100002 : Int32), (), rfl, q0, by rw [ht]; exact hP, va_K.moved hW.alike hK, hD⟩, hS.F ht⟩) hS.2.2 dX7_told_25
  · have hF := if_t hF c0
    refine lv_ldc (v := (-100001)) hx hb hown (hlk (.constant RX7 170 (-100001)) (by decide +kernel)) dX7_told_8 ?_
    obtain ⟨q0, q1, q2, q3, q4, q5, q6, q7, q8, q9⟩ := sm10 hF
    have hP : va_P (dC, dI) vwCl (mW cI cJ h a forms prime o_turns lineT lineU kinds upper lower numbers o_q o_base o_least o_table o_rows o_lists o_listSize o_tried other line makers touches made kindForm kindTurns kindWays) H := by rw [← q1, ← q2, ← q3, ← q4, ← q5, ← q6, ← q7, ← q8, ← q9]; exact hP
    have hD : va_D A (mW cI cJ h a forms prime o_turns lineT lineU kinds upper lower numbers o_q o_base o_least o_table o_rows o_lists o_listSize o_tried other line makers touches made kindForm kindTurns kindWays) := by rw [← q1, ← q2, ← q3, ← q4, ← q5, ← q6, ← q7, ← q8, ← q9]; exact hD
    refine W_Qe hQ ?_
    exact W.iret hx hb hr (fun t ht hW => ⟨⟨(-100001 : Int32), (), rfl, q0, by rw [ht]; exact hP, va_K.moved hW.alike hK, hD⟩, hS.F ht⟩) hS.2.2 dX7_told_10
def fX7_value (fu : Nat) (forms : Int32) (numbers : Nat → Int32) (q : Nat → Int64) (p0 : Int32) (p1 : Int32) (p2 : Int32) (p3 : Int32) : Option (Int32 × (Nat → Int64)) :=
  bd1 (fX7_isForm forms p0) (fun (r_1 : Int32) => if r_1 = 0 then (some ((-100001 : Int32), q)) else (bd1 (fX7_in p1.toInt64 (-1000 : Int64) (1000 : Int64)) (fun (r_2 : Int32) => nm (some ((-100002 : Int32), q)) (fun (k54 : Option (Int32 × (Nat → Int64))) => if r_2 = 0 then ((k54)) else (bd1 (fX7_in p2.toInt64 (-1000 : Int64) (1000 : Int64)) (fun (r_3 : Int32) => if r_3 = 0 then ((k54)) else (bd1 (fX7_in p3.toInt64 (-1000 : Int64) (1000 : Int64)) (fun (r_4 : Int32) => if r_4 = 0 then ((k54)) else (bd1 (fX7_hold fu numbers q p0) (fun (q_5 : Nat → Int64) => bd1 (fX7_valueOf q_5 p1.toInt64 p2.toInt64 p3.toInt64) (fun (r_6 : Int64) => nm (r_6.toInt32) (fun (v_7 : Int32) => some (v_7, q_5)))))))))))))
def lkX7_value : List Cond := [.constantLong RX7 174 (-1000), .constantLong RX7 176 (1000), .constant RX7 157 (-100002), .constant RX7 170 (-100001)]
def vX7_value : List Cond := .code yX7_value cX7_value 5 (some .int) :: (lkX7_value ++ (wsV RX7 166 RX7 yX7_isForm vX7_isForm ++ (va_wsS RX7 147 yX7_in vX7_in ++ (wsV RX7 138 RX7 yX7_hold vX7_hold ++ (wsV RX7 66 RX7 yX7_valueOf vX7_valueOf ++ ([]))))))
theorem q_X7_value : ∀ w ∈ vX7_value, goodWord w = true := gd_cons rfl (gd_app (by decide +kernel) (gd_app (gd_V q_X7_isForm) (gd_app (gd_S q_X7_in) (gd_app (gd_V q_X7_hold) (gd_app (gd_V q_X7_valueOf) gd_nil)))))
theorem g_X7_value_X7_isForm : GoodIn vX7_value (wsV RX7 166 RX7 yX7_isForm vX7_isForm) := gi_of (fun w h => List.mem_cons_of_mem _ (List.mem_append_right _ (List.mem_append_left _ h))) (gd_V q_X7_isForm)
theorem g_X7_value_X7_in : GoodIn vX7_value (va_wsS RX7 147 yX7_in vX7_in) := gi_of (fun w h => List.mem_cons_of_mem _ (List.mem_append_right _ (List.mem_append_right _ (List.mem_append_left _ h)))) (gd_S q_X7_in)
theorem g_X7_value_X7_hold : GoodIn vX7_value (wsV RX7 138 RX7 yX7_hold vX7_hold) := gi_of (fun w h => List.mem_cons_of_mem _ (List.mem_append_right _ (List.mem_append_right _ (List.mem_append_right _ (List.mem_append_left _ h))))) (gd_V q_X7_hold)
theorem g_X7_value_X7_valueOf : GoodIn vX7_value (wsV RX7 66 RX7 yX7_valueOf vX7_valueOf) := gi_of (fun w h => List.mem_cons_of_mem _ (List.mem_append_right _ (List.mem_append_right _ (List.mem_append_right _ (List.mem_append_right _ (List.mem_append_left _ h)))))) (gd_V q_X7_valueOf)
abbrev rmX7_value : Room := { frames := 2, cells := 0, slots := 0, locals := 46 }
set_option maxHeartbeats 4000000 in
set_option maxRecDepth 100000 in
theorem c_X7_value (l : Launch) (dC : Nat → ClassId) (dI : Nat → Nat → Nat) (cI : ClassId) (cJ : ClassId) (h : Nat) (a : Nat → Nat) (fu : Nat) (sz : Nat) (forms : Int32) (prime : Int32) (turns : Int32) (lineT : Int32) (lineU : Int32) (kinds : Int32) (upper : Int64) (lower : Int64) (numbers : Nat → Int32) (q : Nat → Int64) (base : Nat → Int64) (least : Nat → Int64) (table : Nat → Int64) (rows : Nat → Int64) (lists : Nat → Int64) (listSize : Nat → Int32) (tried : Nat → Int64) (other : Nat → Int64) (line : Nat → Int64) (makers : Nat → Int64) (touches : Nat → Int64) (made : Nat → Int64) (kindForm : Nat → Int64) (kindTurns : Nat → Int32) (kindWays : Nat → Int32) (p0 : Int32) (p1 : Int32) (p2 : Int32) (p3 : Int32) (ro : Int32) (o_q : Nat → Int64) (hF : fX7_value fu forms numbers q p0 p1 p2 p3 = some (ro, o_q)) : Met l yX7_value vX7_value rmX7_value (va_Pc [.ref h, .int p0, .int p1, .int p2, .int p3] (mPc (dC, dI) vwCl (mW cI cJ h a forms prime turns lineT lineU kinds upper lower numbers q base least table rows lists listSize tried other line makers touches made kindForm kindTurns kindWays) [(cI, .int), (cJ, .long)] sz)) (va_Qi (fun x (_ : Unit) => x = ro) (mPo (dC, dI) vwCl (mW cI cJ h a forms prime turns lineT lineU kinds upper lower numbers o_q base least table rows lists listSize tried other line makers touches made kindForm kindTurns kindWays) [(cI, .int), (cJ, .long)] (va_A (mW cI cJ h a forms prime turns lineT lineU kinds upper lower numbers q base least table rows lists listSize tried other line makers touches made kindForm kindTurns kindWays) sz)) (va_A (mW cI cJ h a forms prime turns lineT lineU kinds upper lower numbers q base least table rows lists listSize tried other line makers touches made kindForm kindTurns kindWays) sz)) 0 0 (va_A (mW cI cJ h a forms prime turns lineT lineU kinds upper lower numbers q base least table rows lists listSize tried other line makers touches made kindForm kindTurns kindWays) sz) := by
  refine Met.ofW (cc := cX7_value) (maxL := 5) (ret := (some .int)) (by decide) rfl ?_
  intro p e s m args below meth c s₁ B hml hv
  obtain ⟨rfl, hsz, hP, hK, hD0⟩ := hv
  have hx := B.exec
  have hb := B.bytes
  have hr := B.returns
  have hts := atoms_spec (ws := vX7_value) B.pre
  have hlk : ∀ w ∈ lkX7_value, w.before _ s = true := fun w h => hts w (List.mem_cons_of_mem _ (List.mem_append_left _ h))
  have hown : s.vm.findClass RX7 = some m.cls := findClass_of_methodNamed B.named
  have hlocks := B.notSynchronized
  subst hsz
  have hD := hD0.self (sz := s.heap.size)
  generalize hAe : va_A (mW cI cJ h a forms prime turns lineT lineU kinds upper lower numbers q base least table rows lists listSize tried other line makers touches made kindForm kindTurns kindWays) s.heap.size = A at hD ⊢
  have hA : ∀ q : Nat, s.heap.size ≤ q → A q := fun q h => by rw [← hAe]; exact Or.inr h
  have hS : va_S A s.heap s.heap [] := va_S.rf
  have hl := lv_entry ([.ref h, .int p0, .int p1, .int p2, .int p3] : List Value) (n := 5) (Nat.le_of_ble_eq_true rfl)
  rw [lg_entry_eq]
  generalize (lg_sl ([.ref h, .int p0, .int p1, .int p2, .int p3] : List Value) ++ List.replicate (5 - (lg_sl ([.ref h, .int p0, .int p1, .int p2, .int p3] : List Value)).length) Slot.unset).toArray = ls at hl ⊢
  have hl : lv_has ls 5 [(0, .ref h), (1, .int p0), (2, .int p1), (3, .int p2), (4, .int p3)] := hl
  unfold fX7_value at hF
  refine W_Q (fun Q hQ => ?_)
  have hP : va_P (dC, dI) vwCl (mW cI cJ h a forms prime turns lineT lineU kinds upper lower numbers q base least table rows lists listSize tried other line makers touches made kindForm kindTurns kindWays) s.heap := hP
  refine W_HL (fun H locs eH eL => ?_)
  rw [← eH] at hP
  have hS : va_S A s.heap H locs := by rw [eH, eL]; exact hS
  refine lv_aload_n hx hb dX7_value_0 rfl (lv_at hl 0 rfl) ?_
  refine lv_iload_n hx hb dX7_value_1 rfl (lv_at hl 1 rfl) ?_
  obtain ⟨r_1, hc, hF⟩ := bd1_of hF
  refine rc_i (va_runV (As := [.int p0]) (rest := []) ⟨hx, hb, hml, hown, hts⟩ (c_X7_isForm l dC dI cI cJ h a forms prime turns lineT lineU kinds upper lower numbers q base least table rows lists listSize tried other line makers touches made kindForm kindTurns kindWays p0 r_1 hc) (cwV 1 hts g_X7_value_X7_isForm rfl rfl rfl (by decide +kernel) ⟨Nat.le_of_ble_eq_true rfl, Nat.le_of_ble_eq_true rfl⟩) ⟨rPc_blind, va_recv hK hP (ci := 5) (q0 := 0) rfl rfl, rPc_at hK hP⟩ rfl rfl hl.1 rfl (lv_room (Nat.le_of_ble_eq_true rfl)) dX7_value_2 ⟨Nat.zero_le _, Nat.zero_le _⟩) ?_
  refine lv_if_ne (tgt := 11) hx hb dX7_value_5 (by decide) (fun c0 => ?_) (fun c0 => ?_)
  · have hF := if_f hF c0
    refine lv_iload_n hx hb dX7_value_11 rfl (lv_at hl 2 rfl) ?_
    refine lv_i2l (v := p1.toInt64) hx hb dX7_value_12 rfl ?_
    refine lv_ldc2 (v := (-1000)) hx hb hown (hlk (.constantLong RX7 174 (-1000)) (by decide +kernel)) dX7_value_13 ?_
    refine lv_ldc2 (v := (1000)) hx hb hown (hlk (.constantLong RX7 176 (1000)) (by decide +kernel)) dX7_value_16 ?_
    obtain ⟨r_2, hc, hF⟩ := bd1_of hF
    refine rc_i (va_runS (As := [.long p1.toInt64, .long (-1000 : Int64), .long (1000 : Int64)]) (rest := []) ⟨hx, hb, hml, hown, hts⟩ (c_X7_in l p1.toInt64 (-1000 : Int64) (1000 : Int64) r_2 hc) (va_cwS 3 hts g_X7_value_X7_in rfl rfl rfl (by decide +kernel) ⟨Nat.le_of_ble_eq_true rfl, Nat.le_of_ble_eq_true rfl⟩) ⟨tPc_blind, tPc_at⟩ rfl rfl hl.1 rfl (lv_room (Nat.le_of_ble_eq_true rfl)) dX7_value_19 ⟨Nat.zero_le _, Nat.zero_le _⟩) ?_
    obtain ⟨k54, e_k54, hF⟩ := nm_ex hF
    have hk54 : ∀  (H : Heap) (locs : List Loc) (ls : Array Slot), va_P (dC, dI) vwCl (mW cI cJ h a forms prime turns lineT lineU kinds upper lower numbers q base least table rows lists listSize tried other line makers touches made kindForm kindTurns kindWays) H → va_D A (mW cI cJ h a forms prime turns lineT lineU kinds upper lower numbers q base least table rows lists listSize tried other line makers touches made kindForm kindTurns kindWays) → va_S A s.heap H locs → lv_has ls 5 [] → k54 = some (ro, o_q) → W p l e rmX7_value s m ([.ref h, .int p0, .int p1, .int p2, .int p3] : List Value).toArray below meth c H locs 0 0 Q (F0 m 54 ls []) := by
      intro H locs ls hP hD hS hl hF
      have hF := ka0 e_k54 hF
      refine lv_ldc (v := (-100002)) hx hb hown (hlk (.constant RX7 157 (-100002)) (by decide +kernel)) dX7_value_54 ?_
      obtain ⟨q0, q1⟩ := sm2 hF
      have hP : va_P (dC, dI) vwCl (mW cI cJ h a forms prime turns lineT lineU kinds upper lower numbers o_q base least table rows lists listSize tried other line makers touches made kindForm kindTurns kindWays) H := by rw [← q1]; exact hP
      have hD : va_D A (mW cI cJ h a forms prime turns lineT lineU kinds upper lower numbers o_q base least table rows lists listSize tried other line makers touches made kindForm kindTurns kindWays) := by rw [← q1]; exact hD
      refine W_Qe hQ ?_
      exact W.iret hx hb hr (fun t ht hW => ⟨⟨(-100002 : Int32), (), rfl, q0, by rw [ht]; exact hP, va_K.moved hW.alike hK, hD⟩, hS.F ht⟩) hS.2.2 dX7_value_56
    clear e_k54
    refine lv_if_eq (tgt := 54) hx hb dX7_value_22 (by decide) (fun c0 => ?_) (fun c0 => ?_)
    · have hF := if_t hF c0
      exact hk54 H locs ls hP hD hS (lv_sub hl [] rfl) hF
    · have hF := if_f hF c0
      refine lv_iload_n hx hb dX7_value_25 rfl (lv_at hl 3 rfl) ?_
      refine lv_i2l (v := p2.toInt64) hx hb dX7_value_26 rfl ?_
      refine lv_ldc2 (v := (-1000)) hx hb hown (hlk (.constantLong RX7 174 (-1000)) (by decide +kernel)) dX7_value_27 ?_
      refine lv_ldc2 (v := (1000)) hx hb hown (hlk (.constantLong RX7 176 (1000)) (by decide +kernel)) dX7_value_30 ?_
      obtain ⟨r_3, hc, hF⟩ := bd1_of hF
      refine rc_i (va_runS (As := [.long p2.toInt64, .long (-1000 : Int64), .long (1000 : Int64)]) (rest := []) ⟨hx, hb, hml, hown, hts⟩ (c_X7_in l p2.toInt64 (-1000 : Int64) (1000 : Int64) r_3 hc) (va_cwS 3 hts g_X7_value_X7_in rfl rfl rfl (by decide +kernel) ⟨Nat.le_of_ble_eq_true rfl, Nat.le_of_ble_eq_true rfl⟩) ⟨tPc_blind, tPc_at⟩ rfl rfl hl.1 rfl (lv_room (Nat.le_of_ble_eq_true rfl)) dX7_value_33 ⟨Nat.zero_le _, Nat.zero_le _⟩) ?_
      refine lv_if_eq (tgt := 54) hx hb dX7_value_36 (by decide) (fun c0 => ?_) (fun c0 => ?_)
      · have hF := if_t hF c0
        exact hk54 H locs ls hP hD hS (lv_sub hl [] rfl) hF
      · have hF := if_f hF c0
        refine lv_iload hx hb dX7_value_39 (lv_at hl 4 rfl) ?_
        refine lv_i2l (v := p3.toInt64) hx hb dX7_value_41 rfl ?_
        refine lv_ldc2 (v := (-1000)) hx hb hown (hlk (.constantLong RX7 174 (-1000)) (by decide +kernel)) dX7_value_42 ?_
        refine lv_ldc2 (v := (1000)) hx hb hown (hlk (.constantLong RX7 176 (1000)) (by decide +kernel)) dX7_value_45 ?_
        obtain ⟨r_4, hc, hF⟩ := bd1_of hF
        refine rc_i (va_runS (As := [.long p3.toInt64, .long (-1000 : Int64), .long (1000 : Int64)]) (rest := []) ⟨hx, hb, hml, hown, hts⟩ (c_X7_in l p3.toInt64 (-1000 : Int64) (1000 : Int64) r_4 hc) (va_cwS 3 hts g_X7_value_X7_in rfl rfl rfl (by decide +kernel) ⟨Nat.le_of_ble_eq_true rfl, Nat.le_of_ble_eq_true rfl⟩) ⟨tPc_blind, tPc_at⟩ rfl rfl hl.1 rfl (lv_room (Nat.le_of_ble_eq_true rfl)) dX7_value_48 ⟨Nat.zero_le _, Nat.zero_le _⟩) ?_
        refine lv_if_ne (tgt := 57) hx hb dX7_value_51 (by decide) (fun c0 => ?_) (fun c0 => ?_)
        · have hF := if_f hF c0
          refine lv_aload_n hx hb dX7_value_57 rfl (lv_at hl 0 rfl) ?_
          refine lv_iload_n hx hb dX7_value_58 rfl (lv_at hl 1 rfl) ?_
          obtain ⟨q_5, hc, hF⟩ := bd1_of hF
          refine mc_v (va_runV (As := [.int p0]) (rest := []) ⟨hx, hb, hml, hown, hts⟩ (c_X7_hold l dC dI cI cJ h a fu H.size forms prime turns lineT lineU kinds upper lower numbers q base least table rows lists listSize tried other line makers touches made kindForm kindTurns kindWays p0 q_5 hc) (cwV 1 hts g_X7_value_X7_hold rfl rfl rfl (by decide +kernel) ⟨Nat.le_of_ble_eq_true rfl, Nat.le_of_ble_eq_true rfl⟩) ⟨mPc_blind, va_recv hK hP (ci := 5) (q0 := 0) rfl rfl, mPc_at hK hP hD⟩ rfl rfl hl.1 rfl (lv_room (Nat.le_of_ble_eq_true rfl)) dX7_value_59 ⟨Nat.zero_le _, Nat.zero_le _⟩) hS (fr_all hD hS hA) (fun H locs hP hD hS => ?_)
          refine lv_aload_n hx hb dX7_value_62 rfl (lv_at hl 0 rfl) ?_
          refine lv_iload_n hx hb dX7_value_63 rfl (lv_at hl 2 rfl) ?_
          refine lv_i2l (v := p1.toInt64) hx hb dX7_value_64 rfl ?_
          refine lv_iload_n hx hb dX7_value_65 rfl (lv_at hl 3 rfl) ?_
          refine lv_i2l (v := p2.toInt64) hx hb dX7_value_66 rfl ?_
          refine lv_iload hx hb dX7_value_67 (lv_at hl 4 rfl) ?_
          refine lv_i2l (v := p3.toInt64) hx hb dX7_value_69 rfl ?_
          obtain ⟨r_6, hc, hF⟩ := bd1_of hF
          refine rc_l (va_runV (As := [.long p1.toInt64, .long p2.toInt64, .long p3.toInt64]) (rest := []) ⟨hx, hb, hml, hown, hts⟩ (c_X7_valueOf l dC dI cI cJ h a forms prime turns lineT lineU kinds upper lower numbers q_5 base least table rows lists listSize tried other line makers touches made kindForm kindTurns kindWays p1.toInt64 p2.toInt64 p3.toInt64 r_6 hc) (cwV 3 hts g_X7_value_X7_valueOf rfl rfl rfl (by decide +kernel) ⟨Nat.le_of_ble_eq_true rfl, Nat.le_of_ble_eq_true rfl⟩) ⟨rPc_blind, va_recv hK hP (ci := 5) (q0 := 0) rfl rfl, rPc_at hK hP⟩ rfl rfl hl.1 rfl (lv_room (Nat.le_of_ble_eq_true rfl)) dX7_value_70 ⟨Nat.zero_le _, Nat.zero_le _⟩) ?_
          refine lv_l2i (v := r_6.toInt32) hx hb dX7_value_73 rfl ?_
          refine lv_topi (fun v_7 e_v_7 => ?_)
          have hF := nm_at hF e_v_7
          obtain ⟨q0, q1⟩ := sm2 hF
          have hP : va_P (dC, dI) vwCl (mW cI cJ h a forms prime turns lineT lineU kinds upper lower numbers o_q base least table rows lists listSize tried other line makers touches made kindForm kindTurns kindWays) H := by rw [← q1]; exact hP
          have hD : va_D A (mW cI cJ h a forms prime turns lineT lineU kinds upper lower numbers o_q base least table rows lists listSize tried other line makers touches made kindForm kindTurns kindWays) := by rw [← q1]; exact hD
          refine W_Qe hQ ?_
          exact W.iret hx hb hr (fun t ht hW => ⟨⟨v_7, (), rfl, q0, by rw [ht]; exact hP, va_K.moved hW.alike hK, hD⟩, hS.F ht⟩) hS.2.2 dX7_value_74
        · have hF := if_t hF c0
          exact hk54 H locs ls hP hD hS (lv_sub hl [] rfl) hF
  · have hF := if_t hF c0
    refine lv_ldc (v := (-100001)) hx hb hown (hlk (.constant RX7 170 (-100001)) (by decide +kernel)) dX7_value_8 ?_
    obtain ⟨q0, q1⟩ := sm2 hF
    have hP : va_P (dC, dI) vwCl (mW cI cJ h a forms prime turns lineT lineU kinds upper lower numbers o_q base least table rows lists listSize tried other line makers touches made kindForm kindTurns kindWays) H := by rw [← q1]; exact hP
    have hD : va_D A (mW cI cJ h a forms prime turns lineT lineU kinds upper lower numbers o_q base least table rows lists listSize tried other line makers touches made kindForm kindTurns kindWays) := by rw [← q1]; exact hD
    refine W_Qe hQ ?_
    exact W.iret hx hb hr (fun t ht hW => ⟨⟨(-100001 : Int32), (), rfl, q0, by rw [ht]; exact hP, va_K.moved hW.alike hK, hD⟩, hS.F ht⟩) hS.2.2 dX7_value_10
def fX7_takenNow_L58 (r_3 : Int64) (k101 : (Int32) → Option (Int32)) (q : Nat → Int64) (x9_6 : Int64) (x11_9 : Int64) (p0 : Int32) : Nat → (Int32) → (Int64) → Option (Int32)
  | 0, _, _ => none
  | n + 1, x8_11, x13_12 => if r_3 < x13_12 then ((k101 x8_11)) else (bd1 (fX7_valueOf q x9_6 x11_9 x13_12) (fun (r_13 : Int64) => nm (fun (s_14 : Int32) => nm (x8_11 + s_14) (fun (x8_15 : Int32) => nm (x13_12 + (1 : Int64)) (fun (x13_16 : Int64) => (fX7_takenNow_L58 r_3 k101 q x9_6 x11_9 p0 n x8_15 x13_16)))) (fun (k89 : (Int32) → Option (Int32)) => if r_13 = p0.toInt64 then ((k89 (1 : Int32))) else ((k89 (0 : Int32))))))
def fX7_takenNow_L45 (r_2 : Int64) (k110 : (Int32) → Option (Int32)) (r_3 : Int64) (q : Nat → Int64) (x9_6 : Int64) (p0 : Int32) (fu : Nat) : Nat → (Int32) → (Int64) → Option (Int32)
  | 0, _, _ => none
  | n + 1, x8_8, x11_9 => if r_2 < x11_9 then ((k110 x8_8)) else (nm (-r_3) (fun (x13_10 : Int64) => nm (fun (x8_17 : Int32) => nm (x11_9 + (1 : Int64)) (fun (x11_18 : Int64) => (fX7_takenNow_L45 r_2 k110 r_3 q x9_6 p0 fu n x8_17 x11_18))) (fun (k101 : (Int32) → Option (Int32)) => (fX7_takenNow_L58 r_3 k101 q x9_6 x11_9 p0 fu x8_8 x13_10))))
def fX7_takenNow_L33 (r_1 : Int64) (r_2 : Int64) (r_3 : Int64) (q : Nat → Int64) (p0 : Int32) (fu : Nat) : Nat → (Int32) → (Int64) → Option (Int32)
  | 0, _, _ => none
  | n + 1, x8_5, x9_6 => if r_1 < x9_6 then (some x8_5) else (nm (-r_2) (fun (x11_7 : Int64) => nm (fun (x8_19 : Int32) => nm (x9_6 + (1 : Int64)) (fun (x9_20 : Int64) => (fX7_takenNow_L33 r_1 r_2 r_3 q p0 fu n x8_19 x9_20))) (fun (k110 : (Int32) → Option (Int32)) => (fX7_takenNow_L45 r_2 k110 r_3 q x9_6 p0 fu fu x8_5 x11_7))))
def fX7_takenNow (fu : Nat) (q : Nat → Int64) (p0 : Int32) : Option (Int32) :=
  bd1 (fX7_reach fu q (0 : Int32) p0.toInt64) (fun (r_1 : Int64) => bd1 (fX7_reach fu q (1 : Int32) p0.toInt64) (fun (r_2 : Int64) => bd1 (fX7_reach fu q (2 : Int32) p0.toInt64) (fun (r_3 : Int64) => nm (-r_1) (fun (x9_4 : Int64) => (fX7_takenNow_L33 r_1 r_2 r_3 q p0 fu fu (0 : Int32) x9_4)))))
def lkX7_takenNow : List Cond := []
def vX7_takenNow : List Cond := .code yX7_takenNow cX7_takenNow 15 (some .int) :: (lkX7_takenNow ++ (wsV RX7 98 RX7 yX7_reach vX7_reach ++ (wsV RX7 66 RX7 yX7_valueOf vX7_valueOf ++ ([]))))
theorem q_X7_takenNow : ∀ w ∈ vX7_takenNow, goodWord w = true := gd_cons rfl (gd_app (by decide +kernel) (gd_app (gd_V q_X7_reach) (gd_app (gd_V q_X7_valueOf) gd_nil)))
theorem g_X7_takenNow_X7_reach : GoodIn vX7_takenNow (wsV RX7 98 RX7 yX7_reach vX7_reach) := gi_of (fun w h => List.mem_cons_of_mem _ (List.mem_append_right _ (List.mem_append_left _ h))) (gd_V q_X7_reach)
theorem g_X7_takenNow_X7_valueOf : GoodIn vX7_takenNow (wsV RX7 66 RX7 yX7_valueOf vX7_valueOf) := gi_of (fun w h => List.mem_cons_of_mem _ (List.mem_append_right _ (List.mem_append_right _ (List.mem_append_left _ h)))) (gd_V q_X7_valueOf)
abbrev rmX7_takenNow : Room := { frames := 2, cells := 0, slots := 0, locals := 50 }
set_option maxHeartbeats 4000000 in
set_option maxRecDepth 100000 in
theorem c_X7_takenNow (l : Launch) (dC : Nat → ClassId) (dI : Nat → Nat → Nat) (cI : ClassId) (cJ : ClassId) (h : Nat) (a : Nat → Nat) (fu : Nat) (forms : Int32) (prime : Int32) (turns : Int32) (lineT : Int32) (lineU : Int32) (kinds : Int32) (upper : Int64) (lower : Int64) (numbers : Nat → Int32) (q : Nat → Int64) (base : Nat → Int64) (least : Nat → Int64) (table : Nat → Int64) (rows : Nat → Int64) (lists : Nat → Int64) (listSize : Nat → Int32) (tried : Nat → Int64) (other : Nat → Int64) (line : Nat → Int64) (makers : Nat → Int64) (touches : Nat → Int64) (made : Nat → Int64) (kindForm : Nat → Int64) (kindTurns : Nat → Int32) (kindWays : Nat → Int32) (p0 : Int32) (ro : Int32) (hF : fX7_takenNow fu q p0 = some ro) : Met l yX7_takenNow vX7_takenNow rmX7_takenNow (va_Pc [.ref h, .int p0] (rPc (dC, dI) vwCl (mW cI cJ h a forms prime turns lineT lineU kinds upper lower numbers q base least table rows lists listSize tried other line makers touches made kindForm kindTurns kindWays) [(cI, .int), (cJ, .long)])) (vp_Si (fun x => x = ro)) 0 0 (fun _ => False) := by
  refine Met.ofW (cc := cX7_takenNow) (maxL := 15) (ret := (some .int)) (by decide) rfl ?_
  intro p e s m args below meth c s₁ B hml hv
  obtain ⟨rfl, hP, hK⟩ := hv
  have hx := B.exec
  have hb := B.bytes
  have hr := B.returns
  have hts := atoms_spec (ws := vX7_takenNow) B.pre
  have hlk : ∀ w ∈ lkX7_takenNow, w.before _ s = true := fun w h => hts w (List.mem_cons_of_mem _ (List.mem_append_left _ h))
  have hown : s.vm.findClass RX7 = some m.cls := findClass_of_methodNamed B.named
  have hlocks := B.notSynchronized
  have hl := lv_entry ([.ref h, .int p0] : List Value) (n := 15) (Nat.le_of_ble_eq_true rfl)
  rw [lg_entry_eq]
  generalize (lg_sl ([.ref h, .int p0] : List Value) ++ List.replicate (15 - (lg_sl ([.ref h, .int p0] : List Value)).length) Slot.unset).toArray = ls at hl ⊢
  have hl : lv_has ls 15 [(0, .ref h), (1, .int p0)] := hl
  unfold fX7_takenNow at hF
  refine W_Q (fun Q hQ => ?_)
  refine lv_aload_n hx hb dX7_takenNow_0 rfl (lv_at hl 0 rfl) ?_
  refine lv_iconst (v := 0) hx hb dX7_takenNow_1 (by decide) ?_
  refine lv_iload_n hx hb dX7_takenNow_2 rfl (lv_at hl 1 rfl) ?_
  refine lv_i2l (v := p0.toInt64) hx hb dX7_takenNow_3 rfl ?_
  obtain ⟨r_1, hc, hF⟩ := bd1_of hF
  refine rc_l (va_runV (As := [.int (0 : Int32), .long p0.toInt64]) (rest := []) ⟨hx, hb, hml, hown, hts⟩ (c_X7_reach l dC dI cI cJ h a fu forms prime turns lineT lineU kinds upper lower numbers q base least table rows lists listSize tried other line makers touches made kindForm kindTurns kindWays (0 : Int32) p0.toInt64 r_1 hc) (cwV 2 hts g_X7_takenNow_X7_reach rfl rfl rfl (by decide +kernel) ⟨Nat.le_of_ble_eq_true rfl, Nat.le_of_ble_eq_true rfl⟩) ⟨rPc_blind, va_recv hK hP (ci := 5) (q0 := 0) rfl rfl, rPc_at hK hP⟩ rfl rfl hl.1 rfl (lv_room (Nat.le_of_ble_eq_true rfl)) dX7_takenNow_4 ⟨Nat.zero_le _, Nat.zero_le _⟩) ?_
  refine lv_lstore_n (lv' := [(2, .long r_1), (0, .ref h), (1, .int p0)]) hx hb dX7_takenNow_7 rfl hl (by decide) rfl (fun ls hl => ?_)
  refine lv_aload_n hx hb dX7_takenNow_8 rfl (lv_at hl 1 rfl) ?_
  refine lv_iconst (v := 1) hx hb dX7_takenNow_9 (by decide) ?_
  refine lv_iload_n hx hb dX7_takenNow_10 rfl (lv_at hl 2 rfl) ?_
  refine lv_i2l (v := p0.toInt64) hx hb dX7_takenNow_11 rfl ?_
  obtain ⟨r_2, hc, hF⟩ := bd1_of hF
  refine rc_l (va_runV (As := [.int (1 : Int32), .long p0.toInt64]) (rest := []) ⟨hx, hb, hml, hown, hts⟩ (c_X7_reach l dC dI cI cJ h a fu forms prime turns lineT lineU kinds upper lower numbers q base least table rows lists listSize tried other line makers touches made kindForm kindTurns kindWays (1 : Int32) p0.toInt64 r_2 hc) (cwV 2 hts g_X7_takenNow_X7_reach rfl rfl rfl (by decide +kernel) ⟨Nat.le_of_ble_eq_true rfl, Nat.le_of_ble_eq_true rfl⟩) ⟨rPc_blind, va_recv hK hP (ci := 5) (q0 := 0) rfl rfl, rPc_at hK hP⟩ rfl rfl hl.1 rfl (lv_room (Nat.le_of_ble_eq_true rfl)) dX7_takenNow_12 ⟨Nat.zero_le _, Nat.zero_le _⟩) ?_
  refine lv_lstore (lv' := [(4, .long r_2), (2, .long r_1), (0, .ref h), (1, .int p0)]) hx hb dX7_takenNow_15 hl (by decide) rfl (fun ls hl => ?_)
  refine lv_aload_n hx hb dX7_takenNow_17 rfl (lv_at hl 2 rfl) ?_
  refine lv_iconst (v := 2) hx hb dX7_takenNow_18 (by decide) ?_
  refine lv_iload_n hx hb dX7_takenNow_19 rfl (lv_at hl 3 rfl) ?_
  refine lv_i2l (v := p0.toInt64) hx hb dX7_takenNow_20 rfl ?_
  obtain ⟨r_3, hc, hF⟩ := bd1_of hF
  refine rc_l (va_runV (As := [.int (2 : Int32), .long p0.toInt64]) (rest := []) ⟨hx, hb, hml, hown, hts⟩ (c_X7_reach l dC dI cI cJ h a fu forms prime turns lineT lineU kinds upper lower numbers q base least table rows lists listSize tried other line makers touches made kindForm kindTurns kindWays (2 : Int32) p0.toInt64 r_3 hc) (cwV 2 hts g_X7_takenNow_X7_reach rfl rfl rfl (by decide +kernel) ⟨Nat.le_of_ble_eq_true rfl, Nat.le_of_ble_eq_true rfl⟩) ⟨rPc_blind, va_recv hK hP (ci := 5) (q0 := 0) rfl rfl, rPc_at hK hP⟩ rfl rfl hl.1 rfl (lv_room (Nat.le_of_ble_eq_true rfl)) dX7_takenNow_21 ⟨Nat.zero_le _, Nat.zero_le _⟩) ?_
  refine lv_lstore (lv' := [(6, .long r_3), (4, .long r_2), (2, .long r_1), (0, .ref h), (1, .int p0)]) hx hb dX7_takenNow_24 hl (by decide) rfl (fun ls hl => ?_)
  refine lv_iconst (v := 0) hx hb dX7_takenNow_26 (by decide) ?_
  refine lv_istore (lv' := [(8, .int (0 : Int32)), (6, .long r_3), (4, .long r_2), (2, .long r_1), (0, .ref h), (1, .int p0)]) hx hb dX7_takenNow_27 hl (by decide) rfl (fun ls hl => ?_)
  refine lv_lload_n hx hb dX7_takenNow_29 rfl (lv_at hl 3 rfl) ?_
  refine lv_lneg hx hb dX7_takenNow_30 ?_
  refine lv_topl (fun x9_4 e_x9_4 => ?_)
  have hF := nm_at hF e_x9_4
  refine lv_lstore (lv' := [(9, .long x9_4), (8, .int (0 : Int32)), (6, .long r_3), (4, .long r_2), (2, .long r_1), (0, .ref h), (1, .int p0)]) hx hb dX7_takenNow_31 hl (by decide) rfl (fun ls hl => ?_)
  have hL33 : ∀ n : Nat, ∀ (x8_5 : Int32) (x9_6 : Int64) (ls : Array Slot), lv_has ls 15 [(0, .ref h), (1, .int p0), (2, .long r_1), (4, .long r_2), (6, .long r_3), (8, .int x8_5), (9, .long x9_6)] → fX7_takenNow_L33 r_1 r_2 r_3 q p0 fu n x8_5 x9_6 = some ro → W p l e rmX7_takenNow s m ([.ref h, .int p0] : List Value).toArray below meth c s.heap [] 0 0 Q (F0 m 33 ls []) := by
    intro n
    induction n with
    | zero => intro x8_5 x9_6 ls hl hF; rw [fX7_takenNow_L33] at hF; cases hF
    | succ n ih33 =>
      intro x8_5 x9_6 ls hl hF
      rw [fX7_takenNow_L33] at hF
      refine lv_lload hx hb dX7_takenNow_33 (lv_at hl 6 rfl) ?_
      refine lv_lload_n hx hb dX7_takenNow_35 rfl (lv_at hl 2 rfl) ?_
      refine W.lcmp hx hb dX7_takenNow_36 ?_
      refine lv_if_gt (tgt := 119) hx hb dX7_takenNow_37 (by decide) (fun c0 => ?_) (fun c0 => ?_)
      · have c0 := (lg_cmp_gt _ _).mp c0
        have hF := if_t hF c0
        refine lv_iload hx hb dX7_takenNow_119 (lv_at hl 5 rfl) ?_
        have q0 := sm1 hF
        refine W_Qe hQ ?_
        exact W.iret hx hb hr (fun t ht hW => ⟨_, rfl, q0, ht⟩) (fun _ h9 => by cases h9) dX7_takenNow_121
      · have c0 := (not_congr (lg_cmp_gt _ _)).mp c0
        have hF := if_f hF c0
        refine lv_lload hx hb dX7_takenNow_40 (lv_at hl 3 rfl) ?_
        refine lv_lneg hx hb dX7_takenNow_42 ?_
        refine lv_topl (fun x11_7 e_x11_7 => ?_)
        have hF := nm_at hF e_x11_7
        refine lv_lstore (lv' := [(11, .long x11_7), (0, .ref h), (1, .int p0), (2, .long r_1), (4, .long r_2), (6, .long r_3), (8, .int x8_5), (9, .long x9_6)]) hx hb dX7_takenNow_43 hl (by decide) rfl (fun ls hl => ?_)
        obtain ⟨k110, e_k110, hF⟩ := nm_ex hF
        have hk110 : ∀ (x8_19 : Int32) (ls : Array Slot), lv_has ls 15 [(0, .ref h), (1, .int p0), (2, .long r_1), (4, .long r_2), (6, .long r_3), (8, .int x8_19), (9, .long x9_6)] → k110 x8_19 = some ro → W p l e rmX7_takenNow s m ([.ref h, .int p0] : List Value).toArray below meth c s.heap [] 0 0 Q (F0 m 110 ls []) := by
          intro x8_19 ls hl hF
          have hF := ka1 e_k110 hF
          refine lv_lload hx hb dX7_takenNow_110 (lv_at hl 6 rfl) ?_
          refine lv_lconst (v := 1) hx hb dX7_takenNow_112 (by decide) ?_
          refine lv_ladd hx hb dX7_takenNow_113 ?_
          refine lv_topl (fun x9_20 e_x9_20 => ?_)
          have hF := nm_at hF e_x9_20
          refine lv_lstore (lv' := [(9, .long x9_20), (0, .ref h), (1, .int p0), (2, .long r_1), (4, .long r_2), (6, .long r_3), (8, .int x8_19)]) hx hb dX7_takenNow_114 hl (by decide) rfl (fun ls hl => ?_)
          refine lv_goto (tgt := 33) hx hb dX7_takenNow_116 (by decide) ?_
          exact ih33 x8_19 x9_20 ls (lv_sub hl [1, 2, 3, 4, 5, 6, 0] rfl) hF
        clear e_k110
        have hL45 : ∀ n : Nat, ∀ (x8_8 : Int32) (x11_9 : Int64) (ls : Array Slot), lv_has ls 15 [(0, .ref h), (1, .int p0), (2, .long r_1), (4, .long r_2), (6, .long r_3), (8, .int x8_8), (9, .long x9_6), (11, .long x11_9)] → fX7_takenNow_L45 r_2 k110 r_3 q x9_6 p0 fu n x8_8 x11_9 = some ro → W p l e rmX7_takenNow s m ([.ref h, .int p0] : List Value).toArray below meth c s.heap [] 0 0 Q (F0 m 45 ls []) := by
          intro n
          induction n with
          | zero => intro x8_8 x11_9 ls hl hF; rw [fX7_takenNow_L45] at hF; cases hF
          | succ n ih45 =>
            intro x8_8 x11_9 ls hl hF
            rw [fX7_takenNow_L45] at hF
            refine lv_lload hx hb dX7_takenNow_45 (lv_at hl 7 rfl) ?_
            refine lv_lload hx hb dX7_takenNow_47 (lv_at hl 3 rfl) ?_
            refine W.lcmp hx hb dX7_takenNow_49 ?_
            refine lv_if_gt (tgt := 110) hx hb dX7_takenNow_50 (by decide) (fun c0 => ?_) (fun c0 => ?_)
            · have c0 := (lg_cmp_gt _ _).mp c0
              have hF := if_t hF c0
              exact hk110 x8_8 ls (lv_sub hl [0, 1, 2, 3, 4, 5, 6] rfl) hF
            · have c0 := (not_congr (lg_cmp_gt _ _)).mp c0
              have hF := if_f hF c0
              refine lv_lload hx hb dX7_takenNow_53 (lv_at hl 4 rfl) ?_
              refine lv_lneg hx hb dX7_takenNow_55 ?_
              refine lv_topl (fun x13_10 e_x13_10 => ?_)
              have hF := nm_at hF e_x13_10
              refine lv_lstore (lv' := [(13, .long x13_10), (0, .ref h), (1, .int p0), (2, .long r_1), (4, .long r_2), (6, .long r_3), (8, .int x8_8), (9, .long x9_6), (11, .long x11_9)]) hx hb dX7_takenNow_56 hl (by decide) rfl (fun ls hl => ?_)
              obtain ⟨k101, e_k101, hF⟩ := nm_ex hF
              have hk101 : ∀ (x8_17 : Int32) (ls : Array Slot), lv_has ls 15 [(0, .ref h), (1, .int p0), (2, .long r_1), (4, .long r_2), (6, .long r_3), (8, .int x8_17), (9, .long x9_6), (11, .long x11_9)] → k101 x8_17 = some ro → W p l e rmX7_takenNow s m ([.ref h, .int p0] : List Value).toArray below meth c s.heap [] 0 0 Q (F0 m 101 ls []) := by
                intro x8_17 ls hl hF
                have hF := ka1 e_k101 hF
                refine lv_lload hx hb dX7_takenNow_101 (lv_at hl 7 rfl) ?_
                refine lv_lconst (v := 1) hx hb dX7_takenNow_103 (by decide) ?_
                refine lv_ladd hx hb dX7_takenNow_104 ?_
                refine lv_topl (fun x11_18 e_x11_18 => ?_)
                have hF := nm_at hF e_x11_18
                refine lv_lstore (lv' := [(11, .long x11_18), (0, .ref h), (1, .int p0), (2, .long r_1), (4, .long r_2), (6, .long r_3), (8, .int x8_17), (9, .long x9_6)]) hx hb dX7_takenNow_105 hl (by decide) rfl (fun ls hl => ?_)
                refine lv_goto (tgt := 45) hx hb dX7_takenNow_107 (by decide) ?_
                exact ih45 x8_17 x11_18 ls (lv_sub hl [1, 2, 3, 4, 5, 6, 7, 0] rfl) hF
              clear e_k101
              have hL58 : ∀ n : Nat, ∀ (x8_11 : Int32) (x13_12 : Int64) (ls : Array Slot), lv_has ls 15 [(0, .ref h), (1, .int p0), (2, .long r_1), (4, .long r_2), (6, .long r_3), (8, .int x8_11), (9, .long x9_6), (11, .long x11_9), (13, .long x13_12)] → fX7_takenNow_L58 r_3 k101 q x9_6 x11_9 p0 n x8_11 x13_12 = some ro → W p l e rmX7_takenNow s m ([.ref h, .int p0] : List Value).toArray below meth c s.heap [] 0 0 Q (F0 m 58 ls []) := by
                intro n
                induction n with
                | zero => intro x8_11 x13_12 ls hl hF; rw [fX7_takenNow_L58] at hF; cases hF
                | succ n ih58 =>
                  intro x8_11 x13_12 ls hl hF
                  rw [fX7_takenNow_L58] at hF
                  refine lv_lload hx hb dX7_takenNow_58 (lv_at hl 8 rfl) ?_
                  refine lv_lload hx hb dX7_takenNow_60 (lv_at hl 4 rfl) ?_
                  refine W.lcmp hx hb dX7_takenNow_62 ?_
                  refine lv_if_gt (tgt := 101) hx hb dX7_takenNow_63 (by decide) (fun c0 => ?_) (fun c0 => ?_)
                  · have c0 := (lg_cmp_gt _ _).mp c0
                    have hF := if_t hF c0
                    exact hk101 x8_11 ls (lv_sub hl [0, 1, 2, 3, 4, 5, 6, 7] rfl) hF
                  · have c0 := (not_congr (lg_cmp_gt _ _)).mp c0
                    have hF := if_f hF c0
                    refine lv_iload hx hb dX7_takenNow_66 (lv_at hl 5 rfl) ?_
                    refine lv_aload_n hx hb dX7_takenNow_68 rfl (lv_at hl 0 rfl) ?_
                    refine lv_lload hx hb dX7_takenNow_69 (lv_at hl 6 rfl) ?_
                    refine lv_lload hx hb dX7_takenNow_71 (lv_at hl 7 rfl) ?_
                    refine lv_lload hx hb dX7_takenNow_73 (lv_at hl 8 rfl) ?_
                    obtain ⟨r_13, hc, hF⟩ := bd1_of hF
                    refine rc_l (va_runV (As := [.long x9_6, .long x11_9, .long x13_12]) (rest := [.int x8_11]) ⟨hx, hb, hml, hown, hts⟩ (c_X7_valueOf l dC dI cI cJ h a forms prime turns lineT lineU kinds upper lower numbers q base least table rows lists listSize tried other line makers touches made kindForm kindTurns kindWays x9_6 x11_9 x13_12 r_13 hc) (cwV 3 hts g_X7_takenNow_X7_valueOf rfl rfl rfl (by decide +kernel) ⟨Nat.le_of_ble_eq_true rfl, Nat.le_of_ble_eq_true rfl⟩) ⟨rPc_blind, va_recv hK hP (ci := 5) (q0 := 0) rfl rfl, rPc_at hK hP⟩ rfl rfl hl.1 rfl (lv_room (Nat.le_of_ble_eq_true rfl)) dX7_takenNow_75 ⟨Nat.zero_le _, Nat.zero_le _⟩) ?_
                    refine lv_iload_n hx hb dX7_takenNow_78 rfl (lv_at hl 1 rfl) ?_
                    refine lv_i2l (v := p0.toInt64) hx hb dX7_takenNow_79 rfl ?_
                    refine W.lcmp hx hb dX7_takenNow_80 ?_
                    obtain ⟨k89, e_k89, hF⟩ := nm_ex hF
                    have hk89 : ∀ (s_14 : Int32) (ls : Array Slot), lv_has ls 15 [(0, .ref h), (1, .int p0), (2, .long r_1), (4, .long r_2), (6, .long r_3), (9, .long x9_6), (11, .long x11_9), (13, .long x13_12)] → k89 s_14 = some ro → W p l e rmX7_takenNow s m ([.ref h, .int p0] : List Value).toArray below meth c s.heap [] 0 0 Q (F0 m 89 ls [.int s_14, .int x8_11]) := by
                      intro s_14 ls hl hF
                      have hF := ka1 e_k89 hF
                      refine lv_iadd hx hb dX7_takenNow_89 ?_
                      refine lv_topi (fun x8_15 e_x8_15 => ?_)
                      have hF := nm_at hF e_x8_15
                      refine lv_istore (lv' := [(8, .int x8_15), (0, .ref h), (1, .int p0), (2, .long r_1), (4, .long r_2), (6, .long r_3), (9, .long x9_6), (11, .long x11_9), (13, .long x13_12)]) hx hb dX7_takenNow_90 hl (by decide) rfl (fun ls hl => ?_)
                      refine lv_lload hx hb dX7_takenNow_92 (lv_at hl 8 rfl) ?_
                      refine lv_lconst (v := 1) hx hb dX7_takenNow_94 (by decide) ?_
                      refine lv_ladd hx hb dX7_takenNow_95 ?_
                      refine lv_topl (fun x13_16 e_x13_16 => ?_)
                      have hF := nm_at hF e_x13_16
                      refine lv_lstore (lv' := [(13, .long x13_16), (8, .int x8_15), (0, .ref h), (1, .int p0), (2, .long r_1), (4, .long r_2), (6, .long r_3), (9, .long x9_6), (11, .long x11_9)]) hx hb dX7_takenNow_96 hl (by decide) rfl (fun ls hl => ?_)
                      refine lv_goto (tgt := 58) hx hb dX7_takenNow_98 (by decide) ?_
                      exact ih58 x8_15 x13_16 ls (lv_sub hl [2, 3, 4, 5, 6, 1, 7, 8, 0] rfl) hF
                    clear e_k89
                    refine lv_if_ne (tgt := 88) hx hb dX7_takenNow_81 (by decide) (fun c0 => ?_) (fun c0 => ?_)
                    · have c0 := (not_congr (lg_cmp_eq _ _)).mp c0
                      have hF := if_f hF c0
                      refine lv_iconst (v := 0) hx hb dX7_takenNow_88 (by decide) ?_
                      exact hk89 (0 : Int32) ls (lv_sub hl [0, 1, 2, 3, 4, 6, 7, 8] rfl) hF
                    · have c0 := (lg_cmp_eq _ _).mp c0
                      have hF := if_t hF c0
                      refine lv_iconst (v := 1) hx hb dX7_takenNow_84 (by decide) ?_
                      refine lv_goto (tgt := 89) hx hb dX7_takenNow_85 (by decide) ?_
                      exact hk89 (1 : Int32) ls (lv_sub hl [0, 1, 2, 3, 4, 6, 7, 8] rfl) hF
              exact hL58 fu x8_8 x13_10 ls (lv_sub hl [1, 2, 3, 4, 5, 6, 7, 8, 0] rfl) hF
        exact hL45 fu x8_5 x11_7 ls (lv_sub hl [1, 2, 3, 4, 5, 6, 7, 0] rfl) hF
  exact hL33 fu (0 : Int32) x9_4 ls (lv_sub hl [5, 6, 4, 3, 2, 1, 0] rfl) hF
def fX7_taken (fu : Nat) (forms : Int32) (numbers : Nat → Int32) (q : Nat → Int64) (base : Nat → Int64) (p0 : Int32) (p1 : Int32) : Option (Int32 × (Nat → Int64) × (Nat → Int64)) :=
  bd1 (fX7_isForm forms p0) (fun (r_1 : Int32) => if r_1 = 0 then (some ((-100001 : Int32), q, base)) else (bd1 (fX7_in p1.toInt64 (0 : Int64) (100 : Int64)) (fun (r_2 : Int32) => if r_2 = 0 then (some ((-100002 : Int32), q, base)) else (bd1 (fX7_hold fu numbers q p0) (fun (q_3 : Nat → Int64) => bd2 (fX7_shorten fu q_3 base) (fun (q_4 : Nat → Int64) (base_5 : Nat → Int64) => bd1 (fX7_takenNow fu q_4 p1) (fun (r_6 : Int32) => some (r_6, q_4, base_5))))))))
def lkX7_taken : List Cond := [.constantLong RX7 178 (100), .constant RX7 157 (-100002), .constant RX7 170 (-100001)]
def vX7_taken : List Cond := .code yX7_taken cX7_taken 3 (some .int) :: (lkX7_taken ++ (wsV RX7 166 RX7 yX7_isForm vX7_isForm ++ (va_wsS RX7 147 yX7_in vX7_in ++ (wsV RX7 138 RX7 yX7_hold vX7_hold ++ (wsV RX7 125 RX7 yX7_shorten vX7_shorten ++ (wsV RX7 180 RX7 yX7_takenNow vX7_takenNow ++ ([])))))))
theorem q_X7_taken : ∀ w ∈ vX7_taken, goodWord w = true := gd_cons rfl (gd_app (by decide +kernel) (gd_app (gd_V q_X7_isForm) (gd_app (gd_S q_X7_in) (gd_app (gd_V q_X7_hold) (gd_app (gd_V q_X7_shorten) (gd_app (gd_V q_X7_takenNow) gd_nil))))))
theorem g_X7_taken_X7_isForm : GoodIn vX7_taken (wsV RX7 166 RX7 yX7_isForm vX7_isForm) := gi_of (fun w h => List.mem_cons_of_mem _ (List.mem_append_right _ (List.mem_append_left _ h))) (gd_V q_X7_isForm)
theorem g_X7_taken_X7_in : GoodIn vX7_taken (va_wsS RX7 147 yX7_in vX7_in) := gi_of (fun w h => List.mem_cons_of_mem _ (List.mem_append_right _ (List.mem_append_right _ (List.mem_append_left _ h)))) (gd_S q_X7_in)
theorem g_X7_taken_X7_hold : GoodIn vX7_taken (wsV RX7 138 RX7 yX7_hold vX7_hold) := gi_of (fun w h => List.mem_cons_of_mem _ (List.mem_append_right _ (List.mem_append_right _ (List.mem_append_right _ (List.mem_append_left _ h))))) (gd_V q_X7_hold)
theorem g_X7_taken_X7_shorten : GoodIn vX7_taken (wsV RX7 125 RX7 yX7_shorten vX7_shorten) := gi_of (fun w h => List.mem_cons_of_mem _ (List.mem_append_right _ (List.mem_append_right _ (List.mem_append_right _ (List.mem_append_right _ (List.mem_append_left _ h)))))) (gd_V q_X7_shorten)
theorem g_X7_taken_X7_takenNow : GoodIn vX7_taken (wsV RX7 180 RX7 yX7_takenNow vX7_takenNow) := gi_of (fun w h => List.mem_cons_of_mem _ (List.mem_append_right _ (List.mem_append_right _ (List.mem_append_right _ (List.mem_append_right _ (List.mem_append_right _ (List.mem_append_left _ h))))))) (gd_V q_X7_takenNow)
abbrev rmX7_taken : Room := { frames := 3, cells := 0, slots := 0, locals := 84 }
set_option maxHeartbeats 4000000 in
set_option maxRecDepth 100000 in
theorem c_X7_taken (l : Launch) (dC : Nat → ClassId) (dI : Nat → Nat → Nat) (cI : ClassId) (cJ : ClassId) (h : Nat) (a : Nat → Nat) (fu : Nat) (sz : Nat) (forms : Int32) (prime : Int32) (turns : Int32) (lineT : Int32) (lineU : Int32) (kinds : Int32) (upper : Int64) (lower : Int64) (numbers : Nat → Int32) (q : Nat → Int64) (base : Nat → Int64) (least : Nat → Int64) (table : Nat → Int64) (rows : Nat → Int64) (lists : Nat → Int64) (listSize : Nat → Int32) (tried : Nat → Int64) (other : Nat → Int64) (line : Nat → Int64) (makers : Nat → Int64) (touches : Nat → Int64) (made : Nat → Int64) (kindForm : Nat → Int64) (kindTurns : Nat → Int32) (kindWays : Nat → Int32) (p0 : Int32) (p1 : Int32) (ro : Int32) (o_q : Nat → Int64) (o_base : Nat → Int64) (hF : fX7_taken fu forms numbers q base p0 p1 = some (ro, o_q, o_base)) : Met l yX7_taken vX7_taken rmX7_taken (va_Pc [.ref h, .int p0, .int p1] (mPc (dC, dI) vwCl (mW cI cJ h a forms prime turns lineT lineU kinds upper lower numbers q base least table rows lists listSize tried other line makers touches made kindForm kindTurns kindWays) [(cI, .int), (cJ, .long)] sz)) (va_Qi (fun x (_ : Unit) => x = ro) (mPo (dC, dI) vwCl (mW cI cJ h a forms prime turns lineT lineU kinds upper lower numbers o_q o_base least table rows lists listSize tried other line makers touches made kindForm kindTurns kindWays) [(cI, .int), (cJ, .long)] (va_A (mW cI cJ h a forms prime turns lineT lineU kinds upper lower numbers q base least table rows lists listSize tried other line makers touches made kindForm kindTurns kindWays) sz)) (va_A (mW cI cJ h a forms prime turns lineT lineU kinds upper lower numbers q base least table rows lists listSize tried other line makers touches made kindForm kindTurns kindWays) sz)) 0 0 (va_A (mW cI cJ h a forms prime turns lineT lineU kinds upper lower numbers q base least table rows lists listSize tried other line makers touches made kindForm kindTurns kindWays) sz) := by
  refine Met.ofW (cc := cX7_taken) (maxL := 3) (ret := (some .int)) (by decide) rfl ?_
  intro p e s m args below meth c s₁ B hml hv
  obtain ⟨rfl, hsz, hP, hK, hD0⟩ := hv
  have hx := B.exec
  have hb := B.bytes
  have hr := B.returns
  have hts := atoms_spec (ws := vX7_taken) B.pre
  have hlk : ∀ w ∈ lkX7_taken, w.before _ s = true := fun w h => hts w (List.mem_cons_of_mem _ (List.mem_append_left _ h))
  have hown : s.vm.findClass RX7 = some m.cls := findClass_of_methodNamed B.named
  have hlocks := B.notSynchronized
  subst hsz
  have hD := hD0.self (sz := s.heap.size)
  generalize hAe : va_A (mW cI cJ h a forms prime turns lineT lineU kinds upper lower numbers q base least table rows lists listSize tried other line makers touches made kindForm kindTurns kindWays) s.heap.size = A at hD ⊢
  have hA : ∀ q : Nat, s.heap.size ≤ q → A q := fun q h => by rw [← hAe]; exact Or.inr h
  have hS : va_S A s.heap s.heap [] := va_S.rf
  have hl := lv_entry ([.ref h, .int p0, .int p1] : List Value) (n := 3) (Nat.le_of_ble_eq_true rfl)
  rw [lg_entry_eq]
  generalize (lg_sl ([.ref h, .int p0, .int p1] : List Value) ++ List.replicate (3 - (lg_sl ([.ref h, .int p0, .int p1] : List Value)).length) Slot.unset).toArray = ls at hl ⊢
  have hl : lv_has ls 3 [(0, .ref h), (1, .int p0), (2, .int p1)] := hl
  unfold fX7_taken at hF
  refine W_Q (fun Q hQ => ?_)
  have hP : va_P (dC, dI) vwCl (mW cI cJ h a forms prime turns lineT lineU kinds upper lower numbers q base least table rows lists listSize tried other line makers touches made kindForm kindTurns kindWays) s.heap := hP
  refine W_HL (fun H locs eH eL => ?_)
  rw [← eH] at hP
  have hS : va_S A s.heap H locs := by rw [eH, eL]; exact hS
  refine lv_aload_n hx hb dX7_taken_0 rfl (lv_at hl 0 rfl) ?_
  refine lv_iload_n hx hb dX7_taken_1 rfl (lv_at hl 1 rfl) ?_
  obtain ⟨r_1, hc, hF⟩ := bd1_of hF
  refine rc_i (va_runV (As := [.int p0]) (rest := []) ⟨hx, hb, hml, hown, hts⟩ (c_X7_isForm l dC dI cI cJ h a forms prime turns lineT lineU kinds upper lower numbers q base least table rows lists listSize tried other line makers touches made kindForm kindTurns kindWays p0 r_1 hc) (cwV 1 hts g_X7_taken_X7_isForm rfl rfl rfl (by decide +kernel) ⟨Nat.le_of_ble_eq_true rfl, Nat.le_of_ble_eq_true rfl⟩) ⟨rPc_blind, va_recv hK hP (ci := 5) (q0 := 0) rfl rfl, rPc_at hK hP⟩ rfl rfl hl.1 rfl (lv_room (Nat.le_of_ble_eq_true rfl)) dX7_taken_2 ⟨Nat.zero_le _, Nat.zero_le _⟩) ?_
  refine lv_if_ne (tgt := 11) hx hb dX7_taken_5 (by decide) (fun c0 => ?_) (fun c0 => ?_)
  · have hF := if_f hF c0
    refine lv_iload_n hx hb dX7_taken_11 rfl (lv_at hl 2 rfl) ?_
    refine lv_i2l (v := p1.toInt64) hx hb dX7_taken_12 rfl ?_
    refine lv_lconst (v := 0) hx hb dX7_taken_13 (by decide) ?_
    refine lv_ldc2 (v := (100)) hx hb hown (hlk (.constantLong RX7 178 (100)) (by decide +kernel)) dX7_taken_14 ?_
    obtain ⟨r_2, hc, hF⟩ := bd1_of hF
    refine rc_i (va_runS (As := [.long p1.toInt64, .long (0 : Int64), .long (100 : Int64)]) (rest := []) ⟨hx, hb, hml, hown, hts⟩ (c_X7_in l p1.toInt64 (0 : Int64) (100 : Int64) r_2 hc) (va_cwS 3 hts g_X7_taken_X7_in rfl rfl rfl (by decide +kernel) ⟨Nat.le_of_ble_eq_true rfl, Nat.le_of_ble_eq_true rfl⟩) ⟨tPc_blind, tPc_at⟩ rfl rfl hl.1 rfl (lv_room (Nat.le_of_ble_eq_true rfl)) dX7_taken_17 ⟨Nat.zero_le _, Nat.zero_le _⟩) ?_
    refine lv_if_ne (tgt := 26) hx hb dX7_taken_20 (by decide) (fun c0 => ?_) (fun c0 => ?_)
    · have hF := if_f hF c0
      refine lv_aload_n hx hb dX7_taken_26 rfl (lv_at hl 0 rfl) ?_
      refine lv_iload_n hx hb dX7_taken_27 rfl (lv_at hl 1 rfl) ?_
      obtain ⟨q_3, hc, hF⟩ := bd1_of hF
      refine mc_v (va_runV (As := [.int p0]) (rest := []) ⟨hx, hb, hml, hown, hts⟩ (c_X7_hold l dC dI cI cJ h a fu H.size forms prime turns lineT lineU kinds upper lower numbers q base least table rows lists listSize tried other line makers touches made kindForm kindTurns kindWays p0 q_3 hc) (cwV 1 hts g_X7_taken_X7_hold rfl rfl rfl (by decide +kernel) ⟨Nat.le_of_ble_eq_true rfl, Nat.le_of_ble_eq_true rfl⟩) ⟨mPc_blind, va_recv hK hP (ci := 5) (q0 := 0) rfl rfl, mPc_at hK hP hD⟩ rfl rfl hl.1 rfl (lv_room (Nat.le_of_ble_eq_true rfl)) dX7_taken_28 ⟨Nat.zero_le _, Nat.zero_le _⟩) hS (fr_all hD hS hA) (fun H locs hP hD hS => ?_)
      refine lv_aload_n hx hb dX7_taken_31 rfl (lv_at hl 0 rfl) ?_
      obtain ⟨q_4, base_5, hc, hF⟩ := bd2_of hF
      refine mc_v (va_runV (As := []) (rest := []) ⟨hx, hb, hml, hown, hts⟩ (c_X7_shorten l dC dI cI cJ h a fu H.size forms prime turns lineT lineU kinds upper lower numbers q_3 base least table rows lists listSize tried other line makers touches made kindForm kindTurns kindWays  q_4 base_5 hc) (cwV 0 hts g_X7_taken_X7_shorten rfl rfl rfl (by decide +kernel) ⟨Nat.le_of_ble_eq_true rfl, Nat.le_of_ble_eq_true rfl⟩) ⟨mPc_blind, va_recv hK hP (ci := 5) (q0 := 0) rfl rfl, mPc_at hK hP hD⟩ rfl rfl hl.1 rfl (lv_room (Nat.le_of_ble_eq_true rfl)) dX7_taken_32 ⟨Nat.zero_le _, Nat.zero_le _⟩) hS (fr_all hD hS hA) (fun H locs hP hD hS => ?_)
      refine lv_aload_n hx hb dX7_taken_35 rfl (lv_at hl 0 rfl) ?_
      refine lv_iload_n hx hb dX7_taken_36 rfl (lv_at hl 2 rfl) ?_
      obtain ⟨r_6, hc, hF⟩ := bd1_of hF
      refine rc_i (va_runV (As := [.int p1]) (rest := []) ⟨hx, hb, hml, hown, hts⟩ (c_X7_takenNow l dC dI cI cJ h a fu forms prime turns lineT lineU kinds upper lower numbers q_4 base_5 least table rows lists listSize tried other line makers touches made kindForm kindTurns kindWays p1 r_6 hc) (cwV 1 hts g_X7_taken_X7_takenNow rfl rfl rfl (by decide +kernel) ⟨Nat.le_of_ble_eq_true rfl, Nat.le_of_ble_eq_true rfl⟩) ⟨rPc_blind, va_recv hK hP (ci := 5) (q0 := 0) rfl rfl, rPc_at hK hP⟩ rfl rfl hl.1 rfl (lv_room (Nat.le_of_ble_eq_true rfl)) dX7_taken_37 ⟨Nat.zero_le _, Nat.zero_le _⟩) ?_
      obtain ⟨q0, q1, q2⟩ := sm3 hF
      have hP : va_P (dC, dI) vwCl (mW cI cJ h a forms prime turns lineT lineU kinds upper lower numbers o_q o_base least table rows lists listSize tried other line makers touches made kindForm kindTurns kindWays) H := by rw [← q1, ← q2]; exact hP
      have hD : va_D A (mW cI cJ h a forms prime turns lineT lineU kinds upper lower numbers o_q o_base least table rows lists listSize tried other line makers touches made kindForm kindTurns kindWays) := by rw [← q1, ← q2]; exact hD
      refine W_Qe hQ ?_
      exact W.iret hx hb hr (fun t ht hW => ⟨⟨r_6, (), rfl, q0, by rw [ht]; exact hP, va_K.moved hW.alike hK, hD⟩, hS.F ht⟩) hS.2.2 dX7_taken_40
    · have hF := if_t hF c0
      refine lv_ldc (v := (-100002)) hx hb hown (hlk (.constant RX7 157 (-100002)) (by decide +kernel)) dX7_taken_23 ?_
      obtain ⟨q0, q1, q2⟩ := sm3 hF
      have hP : va_P (dC, dI) vwCl (mW cI cJ h a forms prime turns lineT lineU kinds upper lower numbers o_q o_base least table rows lists listSize tried other line makers touches made kindForm kindTurns kindWays) H := by rw [← q1, ← q2]; exact hP
      have hD : va_D A (mW cI cJ h a forms prime turns lineT lineU kinds upper lower numbers o_q o_base least table rows lists listSize tried other line makers touches made kindForm kindTurns kindWays) := by rw [← q1, ← q2]; exact hD
      refine W_Qe hQ ?_
      exact W.iret hx hb hr (fun t ht hW => ⟨⟨(-100002 : Int32), (), rfl, q0, by rw [ht]; exact hP, va_K.moved hW.alike hK, hD⟩, hS.F ht⟩) hS.2.2 dX7_taken_25
  · have hF := if_t hF c0
    refine lv_ldc (v := (-100001)) hx hb hown (hlk (.constant RX7 170 (-100001)) (by decide +kernel)) dX7_taken_8 ?_
    obtain ⟨q0, q1, q2⟩ := sm3 hF
    have hP : va_P (dC, dI) vwCl (mW cI cJ h a forms prime turns lineT lineU kinds upper lower numbers o_q o_base least table rows lists listSize tried other line makers touches made kindForm kindTurns kindWays) H := by rw [← q1, ← q2]; exact hP
    have hD : va_D A (mW cI cJ h a forms prime turns lineT lineU kinds upper lower numbers o_q o_base least table rows lists listSize tried other line makers touches made kindForm kindTurns kindWays) := by rw [← q1, ← q2]; exact hD
    refine W_Qe hQ ?_
    exact W.iret hx hb hr (fun t ht hW => ⟨⟨(-100001 : Int32), (), rfl, q0, by rw [ht]; exact hP, va_K.moved hW.alike hK, hD⟩, hS.F ht⟩) hS.2.2 dX7_taken_10
def fX7_least (fu : Nat) (forms : Int32) (turns : Int32) (numbers : Nat → Int32) (q : Nat → Int64) (base : Nat → Int64) (least : Nat → Int64) (table : Nat → Int64) (rows : Nat → Int64) (lists : Nat → Int64) (listSize : Nat → Int32) (tried : Nat → Int64) (p0 : Int32) : Option (Int32 × (Int32) × (Nat → Int64) × (Nat → Int64) × (Nat → Int64) × (Nat → Int64) × (Nat → Int64) × (Nat → Int64) × (Nat → Int32) × (Nat → Int64)) :=
  bd1 (fX7_isForm forms p0) (fun (r_1 : Int32) => if r_1 = 0 then (some ((-100001 : Int32), turns, q, base, least, table, rows, lists, listSize, tried)) else (bd9 (fX7_findLeastOf fu numbers q base least table rows lists listSize tried p0) (fun (turns_2 : Int32) (q_3 : Nat → Int64) (base_4 : Nat → Int64) (least_5 : Nat → Int64) (table_6 : Nat → Int64) (rows_7 : Nat → Int64) (lists_8 : Nat → Int64) (listSize_9 : Nat → Int32) (tried_10 : Nat → Int64) => nm (least_5 0).toInt32 (fun (v_11 : Int32) => some (v_11, turns_2, q_3, base_4, least_5, table_6, rows_7, lists_8, listSize_9, tried_10)))))
def lkX7_least : List Cond := [.constant RX7 170 (-100001), .fieldLink RX7 24 "KinFormsModel" "least" "[J"]
def vX7_least : List Cond := .code yX7_least cX7_least 2 (some .int) :: (lkX7_least ++ (wsX70 ++ (wsV RX7 166 RX7 yX7_isForm vX7_isForm ++ (wsV RX7 184 RX7 yX7_findLeastOf vX7_findLeastOf ++ ([])))))
theorem q_X7_least : ∀ w ∈ vX7_least, goodWord w = true := gd_cons rfl (gd_app (by decide +kernel) (gd_app q_wsX70 (gd_app (gd_V q_X7_isForm) (gd_app (gd_V q_X7_findLeastOf) gd_nil))))
theorem g_X7_least_X7_isForm : GoodIn vX7_least (wsV RX7 166 RX7 yX7_isForm vX7_isForm) := gi_of (fun w h => List.mem_cons_of_mem _ (List.mem_append_right _ (List.mem_append_right _ (List.mem_append_left _ h)))) (gd_V q_X7_isForm)
theorem g_X7_least_X7_findLeastOf : GoodIn vX7_least (wsV RX7 184 RX7 yX7_findLeastOf vX7_findLeastOf) := gi_of (fun w h => List.mem_cons_of_mem _ (List.mem_append_right _ (List.mem_append_right _ (List.mem_append_right _ (List.mem_append_left _ h))))) (gd_V q_X7_findLeastOf)
abbrev rmX7_least : Room := { frames := 6, cells := 0, slots := 0, locals := 160 }
set_option maxHeartbeats 4000000 in
set_option maxRecDepth 100000 in
theorem c_X7_least (l : Launch) (dC : Nat → ClassId) (dI : Nat → Nat → Nat) (cI : ClassId) (cJ : ClassId) (h : Nat) (a : Nat → Nat) (fu : Nat) (sz : Nat) (forms : Int32) (prime : Int32) (turns : Int32) (lineT : Int32) (lineU : Int32) (kinds : Int32) (upper : Int64) (lower : Int64) (numbers : Nat → Int32) (q : Nat → Int64) (base : Nat → Int64) (least : Nat → Int64) (table : Nat → Int64) (rows : Nat → Int64) (lists : Nat → Int64) (listSize : Nat → Int32) (tried : Nat → Int64) (other : Nat → Int64) (line : Nat → Int64) (makers : Nat → Int64) (touches : Nat → Int64) (made : Nat → Int64) (kindForm : Nat → Int64) (kindTurns : Nat → Int32) (kindWays : Nat → Int32) (p0 : Int32) (ro : Int32) (o_turns : Int32) (o_q : Nat → Int64) (o_base : Nat → Int64) (o_least : Nat → Int64) (o_table : Nat → Int64) (o_rows : Nat → Int64) (o_lists : Nat → Int64) (o_listSize : Nat → Int32) (o_tried : Nat → Int64) (hF : fX7_least fu forms turns numbers q base least table rows lists listSize tried p0 = some (ro, o_turns, o_q, o_base, o_least, o_table, o_rows, o_lists, o_listSize, o_tried)) : Met l yX7_least vX7_least rmX7_least (va_Pc [.ref h, .int p0] (mPc (dC, dI) vwCl (mW cI cJ h a forms prime turns lineT lineU kinds upper lower numbers q base least table rows lists listSize tried other line makers touches made kindForm kindTurns kindWays) [(cI, .int), (cJ, .long)] sz)) (va_Qi (fun x (_ : Unit) => x = ro) (mPo (dC, dI) vwCl (mW cI cJ h a forms prime o_turns lineT lineU kinds upper lower numbers o_q o_base o_least o_table o_rows o_lists o_listSize o_tried other line makers touches made kindForm kindTurns kindWays) [(cI, .int), (cJ, .long)] (va_A (mW cI cJ h a forms prime turns lineT lineU kinds upper lower numbers q base least table rows lists listSize tried other line makers touches made kindForm kindTurns kindWays) sz)) (va_A (mW cI cJ h a forms prime turns lineT lineU kinds upper lower numbers q base least table rows lists listSize tried other line makers touches made kindForm kindTurns kindWays) sz)) 0 0 (va_A (mW cI cJ h a forms prime turns lineT lineU kinds upper lower numbers q base least table rows lists listSize tried other line makers touches made kindForm kindTurns kindWays) sz) := by
  refine Met.ofW (cc := cX7_least) (maxL := 2) (ret := (some .int)) (by decide) rfl ?_
  intro p e s m args below meth c s₁ B hml hv
  obtain ⟨rfl, hsz, hP, hK, hD0⟩ := hv
  have hx := B.exec
  have hb := B.bytes
  have hr := B.returns
  have hts := atoms_spec (ws := vX7_least) B.pre
  have hlk : ∀ w ∈ lkX7_least, w.before _ s = true := fun w h => hts w (List.mem_cons_of_mem _ (List.mem_append_left _ h))
  have hown : s.vm.findClass RX7 = some m.cls := findClass_of_methodNamed B.named
  have hlocks := B.notSynchronized
  subst hsz
  have hD := hD0.self (sz := s.heap.size)
  generalize hAe : va_A (mW cI cJ h a forms prime turns lineT lineU kinds upper lower numbers q base least table rows lists listSize tried other line makers touches made kindForm kindTurns kindWays) s.heap.size = A at hD ⊢
  have hA : ∀ q : Nat, s.heap.size ≤ q → A q := fun q h => by rw [← hAe]; exact Or.inr h
  have hS : va_S A s.heap s.heap [] := va_S.rf
  have hinX7 : ∀ w ∈ wsX70, w ∈ vX7_least := fun w h => List.mem_cons_of_mem _ (List.mem_append_right _ (List.mem_append_left _ h))
  have hf_24 := hlk (.fieldLink RX7 24 "KinFormsModel" "least" "[J") (by decide +kernel)
  have hl := lv_entry ([.ref h, .int p0] : List Value) (n := 2) (Nat.le_of_ble_eq_true rfl)
  rw [lg_entry_eq]
  generalize (lg_sl ([.ref h, .int p0] : List Value) ++ List.replicate (2 - (lg_sl ([.ref h, .int p0] : List Value)).length) Slot.unset).toArray = ls at hl ⊢
  have hl : lv_has ls 2 [(0, .ref h), (1, .int p0)] := hl
  unfold fX7_least at hF
  refine W_Q (fun Q hQ => ?_)
  have hP : va_P (dC, dI) vwCl (mW cI cJ h a forms prime turns lineT lineU kinds upper lower numbers q base least table rows lists listSize tried other line makers touches made kindForm kindTurns kindWays) s.heap := hP
  refine W_HL (fun H locs eH eL => ?_)
  rw [← eH] at hP
  have hS : va_S A s.heap H locs := by rw [eH, eL]; exact hS
  refine lv_aload_n hx hb dX7_least_0 rfl (lv_at hl 0 rfl) ?_
  refine lv_iload_n hx hb dX7_least_1 rfl (lv_at hl 1 rfl) ?_
  obtain ⟨r_1, hc, hF⟩ := bd1_of hF
  refine rc_i (va_runV (As := [.int p0]) (rest := []) ⟨hx, hb, hml, hown, hts⟩ (c_X7_isForm l dC dI cI cJ h a forms prime turns lineT lineU kinds upper lower numbers q base least table rows lists listSize tried other line makers touches made kindForm kindTurns kindWays p0 r_1 hc) (cwV 1 hts g_X7_least_X7_isForm rfl rfl rfl (by decide +kernel) ⟨Nat.le_of_ble_eq_true rfl, Nat.le_of_ble_eq_true rfl⟩) ⟨rPc_blind, va_recv hK hP (ci := 5) (q0 := 0) rfl rfl, rPc_at hK hP⟩ rfl rfl hl.1 rfl (lv_room (Nat.le_of_ble_eq_true rfl)) dX7_least_2 ⟨Nat.zero_le _, Nat.zero_le _⟩) ?_
  refine lv_if_ne (tgt := 11) hx hb dX7_least_5 (by decide) (fun c0 => ?_) (fun c0 => ?_)
  · have hF := if_f hF c0
    refine lv_aload_n hx hb dX7_least_11 rfl (lv_at hl 0 rfl) ?_
    refine lv_iload_n hx hb dX7_least_12 rfl (lv_at hl 1 rfl) ?_
    obtain ⟨turns_2, q_3, base_4, least_5, table_6, rows_7, lists_8, listSize_9, tried_10, hc, hF⟩ := bd9_of hF
    refine mc_v (va_runV (As := [.int p0]) (rest := []) ⟨hx, hb, hml, hown, hts⟩ (c_X7_findLeastOf l dC dI cI cJ h a fu H.size forms prime turns lineT lineU kinds upper lower numbers q base least table rows lists listSize tried other line makers touches made kindForm kindTurns kindWays p0 turns_2 q_3 base_4 least_5 table_6 rows_7 lists_8 listSize_9 tried_10 hc) (cwV 1 hts g_X7_least_X7_findLeastOf rfl rfl rfl (by decide +kernel) ⟨Nat.le_of_ble_eq_true rfl, Nat.le_of_ble_eq_true rfl⟩) ⟨mPc_blind, va_recv hK hP (ci := 5) (q0 := 0) rfl rfl, mPc_at hK hP hD⟩ rfl rfl hl.1 rfl (lv_room (Nat.le_of_ble_eq_true rfl)) dX7_least_13 ⟨Nat.zero_le _, Nat.zero_le _⟩) hS (fr_all hD hS hA) (fun H locs hP hD hS => ?_)
    refine lv_aload_n hx hb dX7_least_16 rfl (lv_at hl 0 rfl) ?_
    refine va_get (D := (dC, dI)) (ci := 5) (v := .ref (a 4)) (C := RX7) (T := TX7) (N := 25) hx hb hts hinX7 hown hK hP 0 rfl rfl 5 (by decide) hf_24 (fun _ h9 => h9) rfl dX7_least_17 ?_
    refine lv_iconst (v := 0) hx hb dX7_least_20 (by decide) ?_
    refine kc_lald (j := 0) hx hb hK hP 4 1 rfl rfl (by decide) (by decide) dX7_least_21 ?_
    refine lv_l2i (v := (least_5 0).toInt32) hx hb dX7_least_22 rfl ?_
    refine lv_topi (fun v_11 e_v_11 => ?_)
    have hF := nm_at hF e_v_11
    obtain ⟨q0, q1, q2, q3, q4, q5, q6, q7, q8, q9⟩ := sm10 hF
    have hP : va_P (dC, dI) vwCl (mW cI cJ h a forms prime o_turns lineT lineU kinds upper lower numbers o_q o_base o_least o_table o_rows o_lists o_listSize o_tried other line makers touches made kindForm kindTurns kindWays) H := by rw [← q1, ← q2, ← q3, ← q4, ← q5, ← q6, ← q7, ← q8, ← q9]; exact hP
    have hD : va_D A (mW cI cJ h a forms prime o_turns lineT lineU kinds upper lower numbers o_q o_base o_least o_table o_rows o_lists o_listSize o_tried other line makers touches made kindForm kindTurns kindWays) := by rw [← q1, ← q2, ← q3, ← q4, ← q5, ← q6, ← q7, ← q8, ← q9]; exact hD
    refine W_Qe hQ ?_
    exact W.iret hx hb hr (fun t ht hW => ⟨⟨v_11, (), rfl, q0, by rw [ht]; exact hP, va_K.moved hW.alike hK, hD⟩, hS.F ht⟩) hS.2.2 dX7_least_23
  · have hF := if_t hF c0
    refine lv_ldc (v := (-100001)) hx hb hown (hlk (.constant RX7 170 (-100001)) (by decide +kernel)) dX7_least_8 ?_
    obtain ⟨q0, q1, q2, q3, q4, q5, q6, q7, q8, q9⟩ := sm10 hF
    have hP : va_P (dC, dI) vwCl (mW cI cJ h a forms prime o_turns lineT lineU kinds upper lower numbers o_q o_base o_least o_table o_rows o_lists o_listSize o_tried other line makers touches made kindForm kindTurns kindWays) H := by rw [← q1, ← q2, ← q3, ← q4, ← q5, ← q6, ← q7, ← q8, ← q9]; exact hP
    have hD : va_D A (mW cI cJ h a forms prime o_turns lineT lineU kinds upper lower numbers o_q o_base o_least o_table o_rows o_lists o_listSize o_tried other line makers touches made kindForm kindTurns kindWays) := by rw [← q1, ← q2, ← q3, ← q4, ← q5, ← q6, ← q7, ← q8, ← q9]; exact hD
    refine W_Qe hQ ?_
    exact W.iret hx hb hr (fun t ht hW => ⟨⟨(-100001 : Int32), (), rfl, q0, by rw [ht]; exact hP, va_K.moved hW.alike hK, hD⟩, hS.F ht⟩) hS.2.2 dX7_least_10
def fX7_same_L60 (k101 : (Int32) → Option (Int32 × (Int32) × (Nat → Int64) × (Nat → Int64) × (Nat → Int64) × (Nat → Int64) × (Nat → Int64) × (Nat → Int64) × (Nat → Int32) × (Nat → Int64) × (Nat → Int64))) (other_16 : Nat → Int64) (least_20 : Nat → Int64) : Nat → (Int32) → (Int32) → Option (Int32 × (Int32) × (Nat → Int64) × (Nat → Int64) × (Nat → Int64) × (Nat → Int64) × (Nat → Int64) × (Nat → Int64) × (Nat → Int32) × (Nat → Int64) × (Nat → Int64))
  | 0, _, _ => none
  | n + 1, x3_26, x4_27 => if (6 : Int32) ≤ x4_27 then ((k101 x3_26)) else (nm (fun (s_28 : Int32) => nm (x4_27 + (1 : Int32)) (fun (x4_29 : Int32) => (fX7_same_L60 k101 other_16 least_20 n s_28 x4_29))) (fun (k94 : (Int32) → Option (Int32 × (Int32) × (Nat → Int64) × (Nat → Int64) × (Nat → Int64) × (Nat → Int64) × (Nat → Int64) × (Nat → Int64) × (Nat → Int32) × (Nat → Int64) × (Nat → Int64))) => nm ((k94 (0 : Int32))) (fun (k93 : Option (Int32 × (Int32) × (Nat → Int64) × (Nat → Int64) × (Nat → Int64) × (Nat → Int64) × (Nat → Int64) × (Nat → Int64) × (Nat → Int32) × (Nat → Int64) × (Nat → Int64))) => if x3_26 = 0 then ((k93)) else (if okI x4_27 6 then if okI x4_27 6 then if (other_16 x4_27.toNatClampNeg) = (least_20 x4_27.toNatClampNeg) then ((k94 (1 : Int32))) else ((k93)) else none else none))))
def fX7_same_L26 (k50 : (Nat → Int64) → Option (Int32 × (Int32) × (Nat → Int64) × (Nat → Int64) × (Nat → Int64) × (Nat → Int64) × (Nat → Int64) × (Nat → Int64) × (Nat → Int32) × (Nat → Int64) × (Nat → Int64))) (least_6 : Nat → Int64) : Nat → (Int32) → (Nat → Int64) → Option (Int32 × (Int32) × (Nat → Int64) × (Nat → Int64) × (Nat → Int64) × (Nat → Int64) × (Nat → Int64) × (Nat → Int64) × (Nat → Int32) × (Nat → Int64) × (Nat → Int64))
  | 0, _, _ => none
  | n + 1, x3_12, other_13 => if (6 : Int32) ≤ x3_12 then ((k50 other_13)) else (if okI x3_12 6 then if okI x3_12 6 then nm (vp_updL other_13 x3_12.toNatClampNeg (least_6 x3_12.toNatClampNeg)) (fun (other_14 : Nat → Int64) => nm (x3_12 + (1 : Int32)) (fun (x3_15 : Int32) => (fX7_same_L26 k50 least_6 n x3_15 other_14))) else none else none)
def fX7_same (fu : Nat) (forms : Int32) (turns : Int32) (numbers : Nat → Int32) (q : Nat → Int64) (base : Nat → Int64) (least : Nat → Int64) (table : Nat → Int64) (rows : Nat → Int64) (lists : Nat → Int64) (listSize : Nat → Int32) (tried : Nat → Int64) (other : Nat → Int64) (p0 : Int32) (p1 : Int32) : Option (Int32 × (Int32) × (Nat → Int64) × (Nat → Int64) × (Nat → Int64) × (Nat → Int64) × (Nat → Int64) × (Nat → Int64) × (Nat → Int32) × (Nat → Int64) × (Nat → Int64)) :=
  bd1 (fX7_isForm forms p0) (fun (r_1 : Int32) => nm (some ((-100001 : Int32), turns, q, base, least, table, rows, lists, listSize, tried, other)) (fun (k16 : Option (Int32 × (Int32) × (Nat → Int64) × (Nat → Int64) × (Nat → Int64) × (Nat → Int64) × (Nat → Int64) × (Nat → Int64) × (Nat → Int32) × (Nat → Int64) × (Nat → Int64))) => if r_1 = 0 then ((k16)) else (bd1 (fX7_isForm forms p1) (fun (r_2 : Int32) => if r_2 = 0 then ((k16)) else (bd9 (fX7_findLeastOf fu numbers q base least table rows lists listSize tried p0) (fun (turns_3 : Int32) (q_4 : Nat → Int64) (base_5 : Nat → Int64) (least_6 : Nat → Int64) (table_7 : Nat → Int64) (rows_8 : Nat → Int64) (lists_9 : Nat → Int64) (listSize_10 : Nat → Int32) (tried_11 : Nat → Int64) => nm (fun (other_16 : Nat → Int64) => bd9 (fX7_findLeastOf fu numbers q_4 base_5 least_6 table_7 rows_8 lists_9 listSize_10 tried_11 p1) (fun (turns_17 : Int32) (q_18 : Nat → Int64) (base_19 : Nat → Int64) (least_20 : Nat → Int64) (table_21 : Nat → Int64) (rows_22 : Nat → Int64) (lists_23 : Nat → Int64) (listSize_24 : Nat → Int32) (tried_25 : Nat → Int64) => nm (fun (x3_30 : Int32) => nm (fun (s_31 : Int32) => some (s_31, turns_17, q_18, base_19, least_20, table_21, rows_22, lists_23, listSize_24, tried_25, other_16)) (fun (k110 : (Int32) → Option (Int32 × (Int32) × (Nat → Int64) × (Nat → Int64) × (Nat → Int64) × (Nat → Int64) × (Nat → Int64) × (Nat → Int64) × (Nat → Int32) × (Nat → Int64) × (Nat → Int64))) => if x3_30 = 0 then ((k110 (0 : Int32))) else ((k110 (1 : Int32))))) (fun (k101 : (Int32) → Option (Int32 × (Int32) × (Nat → Int64) × (Nat → Int64) × (Nat → Int64) × (Nat → Int64) × (Nat → Int64) × (Nat → Int64) × (Nat → Int32) × (Nat → Int64) × (Nat → Int64))) => (fX7_same_L60 k101 other_16 least_20 fu (1 : Int32) (0 : Int32))))) (fun (k50 : (Nat → Int64) → Option (Int32 × (Int32) × (Nat → Int64) × (Nat → Int64) × (Nat → Int64) × (Nat → Int64) × (Nat → Int64) × (Nat → Int64) × (Nat → Int32) × (Nat → Int64) × (Nat → Int64))) => (fX7_same_L26 k50 least_6 fu (0 : Int32) other))))))))
def lkX7_same : List Cond := [.constant RX7 170 (-100001), .fieldLink RX7 42 "KinFormsModel" "other" "[J", .fieldLink RX7 24 "KinFormsModel" "least" "[J"]
def vX7_same : List Cond := .code yX7_same cX7_same 5 (some .int) :: (lkX7_same ++ (wsX70 ++ (wsV RX7 166 RX7 yX7_isForm vX7_isForm ++ (wsV RX7 184 RX7 yX7_findLeastOf vX7_findLeastOf ++ ([])))))
theorem q_X7_same : ∀ w ∈ vX7_same, goodWord w = true := gd_cons rfl (gd_app (by decide +kernel) (gd_app q_wsX70 (gd_app (gd_V q_X7_isForm) (gd_app (gd_V q_X7_findLeastOf) gd_nil))))
theorem g_X7_same_X7_isForm : GoodIn vX7_same (wsV RX7 166 RX7 yX7_isForm vX7_isForm) := gi_of (fun w h => List.mem_cons_of_mem _ (List.mem_append_right _ (List.mem_append_right _ (List.mem_append_left _ h)))) (gd_V q_X7_isForm)
theorem g_X7_same_X7_findLeastOf : GoodIn vX7_same (wsV RX7 184 RX7 yX7_findLeastOf vX7_findLeastOf) := gi_of (fun w h => List.mem_cons_of_mem _ (List.mem_append_right _ (List.mem_append_right _ (List.mem_append_right _ (List.mem_append_left _ h))))) (gd_V q_X7_findLeastOf)
abbrev rmX7_same : Room := { frames := 6, cells := 0, slots := 0, locals := 160 }
set_option maxHeartbeats 4000000 in
set_option maxRecDepth 100000 in
theorem c_X7_same (l : Launch) (dC : Nat → ClassId) (dI : Nat → Nat → Nat) (cI : ClassId) (cJ : ClassId) (h : Nat) (a : Nat → Nat) (fu : Nat) (sz : Nat) (forms : Int32) (prime : Int32) (turns : Int32) (lineT : Int32) (lineU : Int32) (kinds : Int32) (upper : Int64) (lower : Int64) (numbers : Nat → Int32) (q : Nat → Int64) (base : Nat → Int64) (least : Nat → Int64) (table : Nat → Int64) (rows : Nat → Int64) (lists : Nat → Int64) (listSize : Nat → Int32) (tried : Nat → Int64) (other : Nat → Int64) (line : Nat → Int64) (makers : Nat → Int64) (touches : Nat → Int64) (made : Nat → Int64) (kindForm : Nat → Int64) (kindTurns : Nat → Int32) (kindWays : Nat → Int32) (p0 : Int32) (p1 : Int32) (ro : Int32) (o_turns : Int32) (o_q : Nat → Int64) (o_base : Nat → Int64) (o_least : Nat → Int64) (o_table : Nat → Int64) (o_rows : Nat → Int64) (o_lists : Nat → Int64) (o_listSize : Nat → Int32) (o_tried : Nat → Int64) (o_other : Nat → Int64) (hF : fX7_same fu forms turns numbers q base least table rows lists listSize tried other p0 p1 = some (ro, o_turns, o_q, o_base, o_least, o_table, o_rows, o_lists, o_listSize, o_tried, o_other)) : Met l yX7_same vX7_same rmX7_same (va_Pc [.ref h, .int p0, .int p1] (mPc (dC, dI) vwCl (mW cI cJ h a forms prime turns lineT lineU kinds upper lower numbers q base least table rows lists listSize tried other line makers touches made kindForm kindTurns kindWays) [(cI, .int), (cJ, .long)] sz)) (va_Qi (fun x (_ : Unit) => x = ro) (mPo (dC, dI) vwCl (mW cI cJ h a forms prime o_turns lineT lineU kinds upper lower numbers o_q o_base o_least o_table o_rows o_lists o_listSize o_tried o_other line makers touches made kindForm kindTurns kindWays) [(cI, .int), (cJ, .long)] (va_A (mW cI cJ h a forms prime turns lineT lineU kinds upper lower numbers q base least table rows lists listSize tried other line makers touches made kindForm kindTurns kindWays) sz)) (va_A (mW cI cJ h a forms prime turns lineT lineU kinds upper lower numbers q base least table rows lists listSize tried other line makers touches made kindForm kindTurns kindWays) sz)) 0 0 (va_A (mW cI cJ h a forms prime turns lineT lineU kinds upper lower numbers q base least table rows lists listSize tried other line makers touches made kindForm kindTurns kindWays) sz) := by
  refine Met.ofW (cc := cX7_same) (maxL := 5) (ret := (some .int)) (by decide) rfl ?_
  intro p e s m args below meth c s₁ B hml hv
  obtain ⟨rfl, hsz, hP, hK, hD0⟩ := hv
  have hx := B.exec
  have hb := B.bytes
  have hr := B.returns
  have hts := atoms_spec (ws := vX7_same) B.pre
  have hlk : ∀ w ∈ lkX7_same, w.before _ s = true := fun w h => hts w (List.mem_cons_of_mem _ (List.mem_append_left _ h))
  have hown : s.vm.findClass RX7 = some m.cls := findClass_of_methodNamed B.named
  have hlocks := B.notSynchronized
  subst hsz
  have hD := hD0.self (sz := s.heap.size)
  generalize hAe : va_A (mW cI cJ h a forms prime turns lineT lineU kinds upper lower numbers q base least table rows lists listSize tried other line makers touches made kindForm kindTurns kindWays) s.heap.size = A at hD ⊢
  have hA : ∀ q : Nat, s.heap.size ≤ q → A q := fun q h => by rw [← hAe]; exact Or.inr h
  have hS : va_S A s.heap s.heap [] := va_S.rf
  have hinX7 : ∀ w ∈ wsX70, w ∈ vX7_same := fun w h => List.mem_cons_of_mem _ (List.mem_append_right _ (List.mem_append_left _ h))
  have hf_42 := hlk (.fieldLink RX7 42 "KinFormsModel" "other" "[J") (by decide +kernel)
  have hf_24 := hlk (.fieldLink RX7 24 "KinFormsModel" "least" "[J") (by decide +kernel)
  have hl := lv_entry ([.ref h, .int p0, .int p1] : List Value) (n := 5) (Nat.le_of_ble_eq_true rfl)
  rw [lg_entry_eq]
  generalize (lg_sl ([.ref h, .int p0, .int p1] : List Value) ++ List.replicate (5 - (lg_sl ([.ref h, .int p0, .int p1] : List Value)).length) Slot.unset).toArray = ls at hl ⊢
  have hl : lv_has ls 5 [(0, .ref h), (1, .int p0), (2, .int p1)] := hl
  unfold fX7_same at hF
  refine W_Q (fun Q hQ => ?_)
  have hP : va_P (dC, dI) vwCl (mW cI cJ h a forms prime turns lineT lineU kinds upper lower numbers q base least table rows lists listSize tried other line makers touches made kindForm kindTurns kindWays) s.heap := hP
  refine W_HL (fun H locs eH eL => ?_)
  rw [← eH] at hP
  have hS : va_S A s.heap H locs := by rw [eH, eL]; exact hS
  refine lv_aload_n hx hb dX7_same_0 rfl (lv_at hl 0 rfl) ?_
  refine lv_iload_n hx hb dX7_same_1 rfl (lv_at hl 1 rfl) ?_
  obtain ⟨r_1, hc, hF⟩ := bd1_of hF
  refine rc_i (va_runV (As := [.int p0]) (rest := []) ⟨hx, hb, hml, hown, hts⟩ (c_X7_isForm l dC dI cI cJ h a forms prime turns lineT lineU kinds upper lower numbers q base least table rows lists listSize tried other line makers touches made kindForm kindTurns kindWays p0 r_1 hc) (cwV 1 hts g_X7_same_X7_isForm rfl rfl rfl (by decide +kernel) ⟨Nat.le_of_ble_eq_true rfl, Nat.le_of_ble_eq_true rfl⟩) ⟨rPc_blind, va_recv hK hP (ci := 5) (q0 := 0) rfl rfl, rPc_at hK hP⟩ rfl rfl hl.1 rfl (lv_room (Nat.le_of_ble_eq_true rfl)) dX7_same_2 ⟨Nat.zero_le _, Nat.zero_le _⟩) ?_
  obtain ⟨k16, e_k16, hF⟩ := nm_ex hF
  have hk16 : ∀  (H : Heap) (locs : List Loc) (ls : Array Slot), va_P (dC, dI) vwCl (mW cI cJ h a forms prime turns lineT lineU kinds upper lower numbers q base least table rows lists listSize tried other line makers touches made kindForm kindTurns kindWays) H → va_D A (mW cI cJ h a forms prime turns lineT lineU kinds upper lower numbers q base least table rows lists listSize tried other line makers touches made kindForm kindTurns kindWays) → va_S A s.heap H locs → lv_has ls 5 [] → k16 = some (ro, o_turns, o_q, o_base, o_least, o_table, o_rows, o_lists, o_listSize, o_tried, o_other) → W p l e rmX7_same s m ([.ref h, .int p0, .int p1] : List Value).toArray below meth c H locs 0 0 Q (F0 m 16 ls []) := by
    intro H locs ls hP hD hS hl hF
    have hF := ka0 e_k16 hF
    refine lv_ldc (v := (-100001)) hx hb hown (hlk (.constant RX7 170 (-100001)) (by decide +kernel)) dX7_same_16 ?_
    obtain ⟨q0, q1, q2, q3, q4, q5, q6, q7, q8, q9, q10⟩ := sm11 hF
    have hP : va_P (dC, dI) vwCl (mW cI cJ h a forms prime o_turns lineT lineU kinds upper lower numbers o_q o_base o_least o_table o_rows o_lists o_listSize o_tried o_other line makers touches made kindForm kindTurns kindWays) H := by rw [← q1, ← q2, ← q3, ← q4, ← q5, ← q6, ← q7, ← q8, ← q9, ← q10]; exact hP
    have hD : va_D A (mW cI cJ h a forms prime o_turns lineT lineU kinds upper lower numbers o_q o_base o_least o_table o_rows o_lists o_listSize o_tried o_other line makers touches made kindForm kindTurns kindWays) := by rw [← q1, ← q2, ← q3, ← q4, ← q5, ← q6, ← q7, ← q8, ← q9, ← q10]; exact hD
    refine W_Qe hQ ?_
    exact W.iret hx hb hr (fun t ht hW => ⟨⟨(-100001 : Int32), (), rfl, q0, by rw [ht]; exact hP, va_K.moved hW.alike hK, hD⟩, hS.F ht⟩) hS.2.2 dX7_same_18
  clear e_k16
  refine lv_if_eq (tgt := 16) hx hb dX7_same_5 (by decide) (fun c0 => ?_) (fun c0 => ?_)
  · have hF := if_t hF c0
    exact hk16 H locs ls hP hD hS (lv_sub hl [] rfl) hF
  · have hF := if_f hF c0
    refine lv_aload_n hx hb dX7_same_8 rfl (lv_at hl 0 rfl) ?_
    refine lv_iload_n hx hb dX7_same_9 rfl (lv_at hl 2 rfl) ?_
    obtain ⟨r_2, hc, hF⟩ := bd1_of hF
    refine rc_i (va_runV (As := [.int p1]) (rest := []) ⟨hx, hb, hml, hown, hts⟩ (c_X7_isForm l dC dI cI cJ h a forms prime turns lineT lineU kinds upper lower numbers q base least table rows lists listSize tried other line makers touches made kindForm kindTurns kindWays p1 r_2 hc) (cwV 1 hts g_X7_same_X7_isForm rfl rfl rfl (by decide +kernel) ⟨Nat.le_of_ble_eq_true rfl, Nat.le_of_ble_eq_true rfl⟩) ⟨rPc_blind, va_recv hK hP (ci := 5) (q0 := 0) rfl rfl, rPc_at hK hP⟩ rfl rfl hl.1 rfl (lv_room (Nat.le_of_ble_eq_true rfl)) dX7_same_10 ⟨Nat.zero_le _, Nat.zero_le _⟩) ?_
    refine lv_if_ne (tgt := 19) hx hb dX7_same_13 (by decide) (fun c0 => ?_) (fun c0 => ?_)
    · have hF := if_f hF c0
      refine lv_aload_n hx hb dX7_same_19 rfl (lv_at hl 0 rfl) ?_
      refine lv_iload_n hx hb dX7_same_20 rfl (lv_at hl 1 rfl) ?_
      obtain ⟨turns_3, q_4, base_5, least_6, table_7, rows_8, lists_9, listSize_10, tried_11, hc, hF⟩ := bd9_of hF
      refine mc_v (va_runV (As := [.int p0]) (rest := []) ⟨hx, hb, hml, hown, hts⟩ (c_X7_findLeastOf l dC dI cI cJ h a fu H.size forms prime turns lineT lineU kinds upper lower numbers q base least table rows lists listSize tried other line makers touches made kindForm kindTurns kindWays p0 turns_3 q_4 base_5 least_6 table_7 rows_8 lists_9 listSize_10 tried_11 hc) (cwV 1 hts g_X7_same_X7_findLeastOf rfl rfl rfl (by decide +kernel) ⟨Nat.le_of_ble_eq_true rfl, Nat.le_of_ble_eq_true rfl⟩) ⟨mPc_blind, va_recv hK hP (ci := 5) (q0 := 0) rfl rfl, mPc_at hK hP hD⟩ rfl rfl hl.1 rfl (lv_room (Nat.le_of_ble_eq_true rfl)) dX7_same_21 ⟨Nat.zero_le _, Nat.zero_le _⟩) hS (fr_all hD hS hA) (fun H locs hP hD hS => ?_)
      refine lv_iconst (v := 0) hx hb dX7_same_24 (by decide) ?_
      refine lv_istore_n (lv' := [(3, .int (0 : Int32)), (0, .ref h), (1, .int p0), (2, .int p1)]) hx hb dX7_same_25 rfl hl (by decide) rfl (fun ls hl => ?_)
      obtain ⟨k50, e_k50, hF⟩ := nm_ex hF
      have hk50 : ∀ (other_16 : Nat → Int64) (H : Heap) (locs : List Loc) (ls : Array Slot), va_P (dC, dI) vwCl (mW cI cJ h a forms prime turns_3 lineT lineU kinds upper lower numbers q_4 base_5 least_6 table_7 rows_8 lists_9 listSize_10 tried_11 other_16 line makers touches made kindForm kindTurns kindWays) H → va_D A (mW cI cJ h a forms prime turns_3 lineT lineU kinds upper lower numbers q_4 base_5 least_6 table_7 rows_8 lists_9 listSize_10 tried_11 other_16 line makers touches made kindForm kindTurns kindWays) → va_S A s.heap H locs → lv_has ls 5 [(0, .ref h), (2, .int p1)] → k50 other_16 = some (ro, o_turns, o_q, o_base, o_least, o_table, o_rows, o_lists, o_listSize, o_tried, o_other) → W p l e rmX7_same s m ([.ref h, .int p0, .int p1] : List Value).toArray below meth c H locs 0 0 Q (F0 m 50 ls []) := by
        intro other_16 H locs ls hP hD hS hl hF
        have hF := ka1 e_k50 hF
        refine lv_aload_n hx hb dX7_same_50 rfl (lv_at hl 0 rfl) ?_
        refine lv_iload_n hx hb dX7_same_51 rfl (lv_at hl 1 rfl) ?_
        obtain ⟨turns_17, q_18, base_19, least_20, table_21, rows_22, lists_23, listSize_24, tried_25, hc, hF⟩ := bd9_of hF
        refine mc_v (va_runV (As := [.int p1]) (rest := []) ⟨hx, hb, hml, hown, hts⟩ (c_X7_findLeastOf l dC dI cI cJ h a fu H.size forms prime turns_3 lineT lineU kinds upper lower numbers q_4 base_5 least_6 table_7 rows_8 lists_9 listSize_10 tried_11 other_16 line makers touches made kindForm kindTurns kindWays p1 turns_17 q_18 base_19 least_20 table_21 rows_22 lists_23 listSize_24 tried_25 hc) (cwV 1 hts g_X7_same_X7_findLeastOf rfl rfl rfl (by decide +kernel) ⟨Nat.le_of_ble_eq_true rfl, Nat.le_of_ble_eq_true rfl⟩) ⟨mPc_blind, va_recv hK hP (ci := 5) (q0 := 0) rfl rfl, mPc_at hK hP hD⟩ rfl rfl hl.1 rfl (lv_room (Nat.le_of_ble_eq_true rfl)) dX7_same_52 ⟨Nat.zero_le _, Nat.zero_le _⟩) hS (fr_all hD hS hA) (fun H locs hP hD hS => ?_)
        refine lv_iconst (v := 1) hx hb dX7_same_55 (by decide) ?_
        refine lv_istore_n (lv' := [(3, .int (1 : Int32)), (0, .ref h), (2, .int p1)]) hx hb dX7_same_56 rfl hl (by decide) rfl (fun ls hl => ?_)
        refine lv_iconst (v := 0) hx hb dX7_same_57 (by decide) ?_
        refine lv_istore (lv' := [(4, .int (0 : Int32)), (3, .int (1 : Int32)), (0, .ref h), (2, .int p1)]) hx hb dX7_same_58 hl (by decide) rfl (fun ls hl => ?_)
        obtain ⟨k101, e_k101, hF⟩ := nm_ex hF
        have hk101 : ∀ (x3_30 : Int32) (H : Heap) (locs : List Loc) (ls : Array Slot), va_P (dC, dI) vwCl (mW cI cJ h a forms prime turns_17 lineT lineU kinds upper lower numbers q_18 base_19 least_20 table_21 rows_22 lists_23 listSize_24 tried_25 other_16 line makers touches made kindForm kindTurns kindWays) H → va_D A (mW cI cJ h a forms prime turns_17 lineT lineU kinds upper lower numbers q_18 base_19 least_20 table_21 rows_22 lists_23 listSize_24 tried_25 other_16 line makers touches made kindForm kindTurns kindWays) → va_S A s.heap H locs → lv_has ls 5 [(3, .int x3_30)] → k101 x3_30 = some (ro, o_turns, o_q, o_base, o_least, o_table, o_rows, o_lists, o_listSize, o_tried, o_other) → W p l e rmX7_same s m ([.ref h, .int p0, .int p1] : List Value).toArray below meth c H locs 0 0 Q (F0 m 101 ls []) := by
          intro x3_30 H locs ls hP hD hS hl hF
          have hF := ka1 e_k101 hF
          refine lv_iload_n hx hb dX7_same_101 rfl (lv_at hl 0 rfl) ?_
          obtain ⟨k110, e_k110, hF⟩ := nm_ex hF
          have hk110 : ∀ (s_31 : Int32) (H : Heap) (locs : List Loc) (ls : Array Slot), va_P (dC, dI) vwCl (mW cI cJ h a forms prime turns_17 lineT lineU kinds upper lower numbers q_18 base_19 least_20 table_21 rows_22 lists_23 listSize_24 tried_25 other_16 line makers touches made kindForm kindTurns kindWays) H → va_D A (mW cI cJ h a forms prime turns_17 lineT lineU kinds upper lower numbers q_18 base_19 least_20 table_21 rows_22 lists_23 listSize_24 tried_25 other_16 line makers touches made kindForm kindTurns kindWays) → va_S A s.heap H locs → lv_has ls 5 [] → k110 s_31 = some (ro, o_turns, o_q, o_base, o_least, o_table, o_rows, o_lists, o_listSize, o_tried, o_other) → W p l e rmX7_same s m ([.ref h, .int p0, .int p1] : List Value).toArray below meth c H locs 0 0 Q (F0 m 110 ls [.int s_31]) := by
            intro s_31 H locs ls hP hD hS hl hF
            have hF := ka1 e_k110 hF
            obtain ⟨q0, q1, q2, q3, q4, q5, q6, q7, q8, q9, q10⟩ := sm11 hF
            have hP : va_P (dC, dI) vwCl (mW cI cJ h a forms prime o_turns lineT lineU kinds upper lower numbers o_q o_base o_least o_table o_rows o_lists o_listSize o_tried o_other line makers touches made kindForm kindTurns kindWays) H := by rw [← q1, ← q2, ← q3, ← q4, ← q5, ← q6, ← q7, ← q8, ← q9, ← q10]; exact hP
            have hD : va_D A (mW cI cJ h a forms prime o_turns lineT lineU kinds upper lower numbers o_q o_base o_least o_table o_rows o_lists o_listSize o_tried o_other line makers touches made kindForm kindTurns kindWays) := by rw [← q1, ← q2, ← q3, ← q4, ← q5, ← q6, ← q7, ← q8, ← q9, ← q10]; exact hD
            refine W_Qe hQ ?_
            exact W.iret hx hb hr (fun t ht hW => ⟨⟨s_31, (), rfl, q0, by rw [ht]; exact hP, va_K.moved hW.alike hK, hD⟩, hS.F ht⟩) hS.2.2 dX7_same_110
          clear e_k110
          refine lv_if_eq (tgt := 109) hx hb dX7_same_102 (by decide) (fun c0 => ?_) (fun c0 => ?_)
          · have hF := if_t hF c0
            refine lv_iconst (v := 0) hx hb dX7_same_109 (by decide) ?_
            exact hk110 (0 : Int32) H locs ls hP hD hS (lv_sub hl [] rfl) hF
          · have hF := if_f hF c0
            refine lv_iconst (v := 1) hx hb dX7_same_105 (by decide) ?_
            refine lv_goto (tgt := 110) hx hb dX7_same_106 (by decide) ?_
            exact hk110 (1 : Int32) H locs ls hP hD hS (lv_sub hl [] rfl) hF
        clear e_k101
        have hL60 : ∀ n : Nat, ∀ (x3_26 : Int32) (x4_27 : Int32) (H : Heap) (locs : List Loc) (ls : Array Slot), va_P (dC, dI) vwCl (mW cI cJ h a forms prime turns_17 lineT lineU kinds upper lower numbers q_18 base_19 least_20 table_21 rows_22 lists_23 listSize_24 tried_25 other_16 line makers touches made kindForm kindTurns kindWays) H → va_D A (mW cI cJ h a forms prime turns_17 lineT lineU kinds upper lower numbers q_18 base_19 least_20 table_21 rows_22 lists_23 listSize_24 tried_25 other_16 line makers touches made kindForm kindTurns kindWays) → va_S A s.heap H locs → lv_has ls 5 [(0, .ref h), (3, .int x3_26), (4, .int x4_27)] → fX7_same_L60 k101 other_16 least_20 n x3_26 x4_27 = some (ro, o_turns, o_q, o_base, o_least, o_table, o_rows, o_lists, o_listSize, o_tried, o_other) → W p l e rmX7_same s m ([.ref h, .int p0, .int p1] : List Value).toArray below meth c H locs 0 0 Q (F0 m 60 ls []) := by
          intro n
          induction n with
          | zero => intro x3_26 x4_27 H locs ls hP hD hS hl hF; rw [fX7_same_L60] at hF; cases hF
          | succ n ih60 =>
            intro x3_26 x4_27 H locs ls hP hD hS hl hF
            rw [fX7_same_L60] at hF
            refine lv_iload hx hb dX7_same_60 (lv_at hl 2 rfl) ?_
            refine lv_bipush (v := (6)) hx hb dX7_same_62 (by decide) ?_
            refine lv_icmp_ge (tgt := 101) hx hb dX7_same_64 (by decide) (fun c0 => ?_) (fun c0 => ?_)
            · have hF := if_t hF c0
              exact hk101 x3_26 H locs ls hP hD hS (lv_sub hl [1] rfl) hF
            · have hF := if_f hF c0
              refine lv_iload_n hx hb dX7_same_67 rfl (lv_at hl 1 rfl) ?_
              obtain ⟨k94, e_k94, hF⟩ := nm_ex hF
              have hk94 : ∀ (s_28 : Int32) (H : Heap) (locs : List Loc) (ls : Array Slot), va_P (dC, dI) vwCl (mW cI cJ h a forms prime turns_17 lineT lineU kinds upper lower numbers q_18 base_19 least_20 table_21 rows_22 lists_23 listSize_24 tried_25 other_16 line makers touches made kindForm kindTurns kindWays) H → va_D A (mW cI cJ h a forms prime turns_17 lineT lineU kinds upper lower numbers q_18 base_19 least_20 table_21 rows_22 lists_23 listSize_24 tried_25 other_16 line makers touches made kindForm kindTurns kindWays) → va_S A s.heap H locs → lv_has ls 5 [(0, .ref h), (4, .int x4_27)] → k94 s_28 = some (ro, o_turns, o_q, o_base, o_least, o_table, o_rows, o_lists, o_listSize, o_tried, o_other) → W p l e rmX7_same s m ([.ref h, .int p0, .int p1] : List Value).toArray below meth c H locs 0 0 Q (F0 m 94 ls [.int s_28]) := by
                intro s_28 H locs ls hP hD hS hl hF
                have hF := ka1 e_k94 hF
                refine lv_istore_n (lv' := [(3, .int s_28), (0, .ref h), (4, .int x4_27)]) hx hb dX7_same_94 rfl hl (by decide) rfl (fun ls hl => ?_)
                obtain ⟨x4_29, e_x4_29, hF⟩ := nm_ex hF
                refine lv_iinc (v := x4_29) (lv' := [(4, .int x4_29), (3, .int s_28), (0, .ref h)]) hx hb dX7_same_95 hl (k := 2) rfl (by rw [e_x4_29]; rfl) (by decide) rfl (fun ls hl => ?_)
                refine lv_goto (tgt := 60) hx hb dX7_same_98 (by decide) ?_
                exact ih60 s_28 x4_29 H locs ls hP hD hS (lv_sub hl [2, 1, 0] rfl) hF
              clear e_k94
              obtain ⟨k93, e_k93, hF⟩ := nm_ex hF
              have hk93 : ∀  (H : Heap) (locs : List Loc) (ls : Array Slot), va_P (dC, dI) vwCl (mW cI cJ h a forms prime turns_17 lineT lineU kinds upper lower numbers q_18 base_19 least_20 table_21 rows_22 lists_23 listSize_24 tried_25 other_16 line makers touches made kindForm kindTurns kindWays) H → va_D A (mW cI cJ h a forms prime turns_17 lineT lineU kinds upper lower numbers q_18 base_19 least_20 table_21 rows_22 lists_23 listSize_24 tried_25 other_16 line makers touches made kindForm kindTurns kindWays) → va_S A s.heap H locs → lv_has ls 5 [(0, .ref h), (4, .int x4_27)] → k93 = some (ro, o_turns, o_q, o_base, o_least, o_table, o_rows, o_lists, o_listSize, o_tried, o_other) → W p l e rmX7_same s m ([.ref h, .int p0, .int p1] : List Value).toArray below meth c H locs 0 0 Q (F0 m 93 ls []) := by
                intro H locs ls hP hD hS hl hF
                have hF := ka0 e_k93 hF
                refine lv_iconst (v := 0) hx hb dX7_same_93 (by decide) ?_
                exact hk94 (0 : Int32) H locs ls hP hD hS (lv_sub hl [0, 1] rfl) hF
              clear e_k93
              refine lv_if_eq (tgt := 93) hx hb dX7_same_68 (by decide) (fun c0 => ?_) (fun c0 => ?_)
              · have hF := if_t hF c0
                exact hk93 H locs ls hP hD hS (lv_sub hl [0, 2] rfl) hF
              · have hF := if_f hF c0
                refine lv_aload_n hx hb dX7_same_71 rfl (lv_at hl 0 rfl) ?_
                refine va_get (D := (dC, dI)) (ci := 5) (v := .ref (a 10)) (C := RX7) (T := TX7) (N := 25) hx hb hts hinX7 hown hK hP 0 rfl rfl 12 (by decide) hf_42 (fun _ h9 => h9) rfl dX7_same_72 ?_
                refine lv_iload hx hb dX7_same_75 (lv_at hl 2 rfl) ?_
                obtain ⟨hi, hF⟩ := ck_of hF
                refine va_lald hx hb hK hP 10 1 rfl rfl hi dX7_same_77 ?_
                refine lv_aload_n hx hb dX7_same_78 rfl (lv_at hl 0 rfl) ?_
                refine va_get (D := (dC, dI)) (ci := 5) (v := .ref (a 4)) (C := RX7) (T := TX7) (N := 25) hx hb hts hinX7 hown hK hP 0 rfl rfl 5 (by decide) hf_24 (fun _ h9 => h9) rfl dX7_same_79 ?_
                refine lv_iload hx hb dX7_same_82 (lv_at hl 2 rfl) ?_
                obtain ⟨hi, hF⟩ := ck_of hF
                refine va_lald hx hb hK hP 4 1 rfl rfl hi dX7_same_84 ?_
                refine W.lcmp hx hb dX7_same_85 ?_
                refine lv_if_ne (tgt := 93) hx hb dX7_same_86 (by decide) (fun c0 => ?_) (fun c0 => ?_)
                · have c0 := (not_congr (lg_cmp_eq _ _)).mp c0
                  have hF := if_f hF c0
                  exact hk93 H locs ls hP hD hS (lv_sub hl [0, 2] rfl) hF
                · have c0 := (lg_cmp_eq _ _).mp c0
                  have hF := if_t hF c0
                  refine lv_iconst (v := 1) hx hb dX7_same_89 (by decide) ?_
                  refine lv_goto (tgt := 94) hx hb dX7_same_90 (by decide) ?_
                  exact hk94 (1 : Int32) H locs ls hP hD hS (lv_sub hl [0, 2] rfl) hF
        exact hL60 fu (1 : Int32) (0 : Int32) H locs ls hP hD hS (lv_sub hl [2, 1, 0] rfl) hF
      clear e_k50
      have hL26 : ∀ n : Nat, ∀ (x3_12 : Int32) (other_13 : Nat → Int64) (H : Heap) (locs : List Loc) (ls : Array Slot), va_P (dC, dI) vwCl (mW cI cJ h a forms prime turns_3 lineT lineU kinds upper lower numbers q_4 base_5 least_6 table_7 rows_8 lists_9 listSize_10 tried_11 other_13 line makers touches made kindForm kindTurns kindWays) H → va_D A (mW cI cJ h a forms prime turns_3 lineT lineU kinds upper lower numbers q_4 base_5 least_6 table_7 rows_8 lists_9 listSize_10 tried_11 other_13 line makers touches made kindForm kindTurns kindWays) → va_S A s.heap H locs → lv_has ls 5 [(0, .ref h), (2, .int p1), (3, .int x3_12)] → fX7_same_L26 k50 least_6 n x3_12 other_13 = some (ro, o_turns, o_q, o_base, o_least, o_table, o_rows, o_lists, o_listSize, o_tried, o_other) → W p l e rmX7_same s m ([.ref h, .int p0, .int p1] : List Value).toArray below meth c H locs 0 0 Q (F0 m 26 ls []) := by
        intro n
        induction n with
        | zero => intro x3_12 other_13 H locs ls hP hD hS hl hF; rw [fX7_same_L26] at hF; cases hF
        | succ n ih26 =>
          intro x3_12 other_13 H locs ls hP hD hS hl hF
          rw [fX7_same_L26] at hF
          refine lv_iload_n hx hb dX7_same_26 rfl (lv_at hl 2 rfl) ?_
          refine lv_bipush (v := (6)) hx hb dX7_same_27 (by decide) ?_
          refine lv_icmp_ge (tgt := 50) hx hb dX7_same_29 (by decide) (fun c0 => ?_) (fun c0 => ?_)
          · have hF := if_t hF c0
            exact hk50 other_13 H locs ls hP hD hS (lv_sub hl [0, 1] rfl) hF
          · have hF := if_f hF c0
            refine lv_aload_n hx hb dX7_same_32 rfl (lv_at hl 0 rfl) ?_
            refine va_get (D := (dC, dI)) (ci := 5) (v := .ref (a 10)) (C := RX7) (T := TX7) (N := 25) hx hb hts hinX7 hown hK hP 0 rfl rfl 12 (by decide) hf_42 (fun _ h9 => h9) rfl dX7_same_33 ?_
            refine lv_iload_n hx hb dX7_same_36 rfl (lv_at hl 2 rfl) ?_
            refine lv_aload_n hx hb dX7_same_37 rfl (lv_at hl 0 rfl) ?_
            refine va_get (D := (dC, dI)) (ci := 5) (v := .ref (a 4)) (C := RX7) (T := TX7) (N := 25) hx hb hts hinX7 hown hK hP 0 rfl rfl 5 (by decide) hf_24 (fun _ h9 => h9) rfl dX7_same_38 ?_
            refine lv_iload_n hx hb dX7_same_41 rfl (lv_at hl 2 rfl) ?_
            obtain ⟨hi, hF⟩ := ck_of hF
            refine va_lald hx hb hK hP 4 1 rfl rfl hi dX7_same_42 ?_
            obtain ⟨hi, hF⟩ := ck_of hF
            obtain ⟨other_14, e_other_14, hF⟩ := nm_ex hF
            refine kc_last (j := x3_12.toNatClampNeg) (g := other_14) hx hb hK hP hD hS 10 1 rfl rfl rfl hi dX7_same_43 e_other_14 (fun H locs hP hD hS => ?_)
            have hP : va_P (dC, dI) vwCl (mW cI cJ h a forms prime turns_3 lineT lineU kinds upper lower numbers q_4 base_5 least_6 table_7 rows_8 lists_9 listSize_10 tried_11 other_14 line makers touches made kindForm kindTurns kindWays) H := hP
            have hD : va_D A (mW cI cJ h a forms prime turns_3 lineT lineU kinds upper lower numbers q_4 base_5 least_6 table_7 rows_8 lists_9 listSize_10 tried_11 other_14 line makers touches made kindForm kindTurns kindWays) := hD
            obtain ⟨x3_15, e_x3_15, hF⟩ := nm_ex hF
            refine lv_iinc (v := x3_15) (lv' := [(3, .int x3_15), (0, .ref h), (2, .int p1)]) hx hb dX7_same_44 hl (k := 2) rfl (by rw [e_x3_15]; rfl) (by decide) rfl (fun ls hl => ?_)
            refine lv_goto (tgt := 26) hx hb dX7_same_47 (by decide) ?_
            exact ih26 x3_15 other_14 H locs ls hP hD hS (lv_sub hl [1, 2, 0] rfl) hF
      exact hL26 fu (0 : Int32) other H locs ls hP hD hS (lv_sub hl [1, 3, 0] rfl) hF
    · have hF := if_t hF c0
      exact hk16 H locs ls hP hD hS (lv_sub hl [] rfl) hF
def fX7_table (fu : Nat) (forms : Int32) (turns : Int32) (numbers : Nat → Int32) (q : Nat → Int64) (base : Nat → Int64) (least : Nat → Int64) (table : Nat → Int64) (rows : Nat → Int64) (lists : Nat → Int64) (listSize : Nat → Int32) (tried : Nat → Int64) (p0 : Int32) (p1 : Int32) : Option (Int32 × (Int32) × (Nat → Int64) × (Nat → Int64) × (Nat → Int64) × (Nat → Int64) × (Nat → Int64) × (Nat → Int64) × (Nat → Int32) × (Nat → Int64)) :=
  bd1 (fX7_isForm forms p0) (fun (r_1 : Int32) => if r_1 = 0 then (some ((-100001 : Int32), turns, q, base, least, table, rows, lists, listSize, tried)) else (bd1 (fX7_in p1.toInt64 (0 : Int64) (8 : Int64)) (fun (r_2 : Int32) => if r_2 = 0 then (some ((-100002 : Int32), turns, q, base, least, table, rows, lists, listSize, tried)) else (bd9 (fX7_findLeastOf fu numbers q base least table rows lists listSize tried p0) (fun (turns_3 : Int32) (q_4 : Nat → Int64) (base_5 : Nat → Int64) (least_6 : Nat → Int64) (table_7 : Nat → Int64) (rows_8 : Nat → Int64) (lists_9 : Nat → Int64) (listSize_10 : Nat → Int32) (tried_11 : Nat → Int64) => if okI p1 9 then nm (table_7 p1.toNatClampNeg).toInt32 (fun (v_12 : Int32) => some (v_12, turns_3, q_4, base_5, least_6, table_7, rows_8, lists_9, listSize_10, tried_11)) else none)))))
def lkX7_table : List Cond := [.constantLong RX7 187 (8), .constant RX7 157 (-100002), .constant RX7 170 (-100001), .fieldLink RX7 27 "KinFormsModel" "table" "[J"]
def vX7_table : List Cond := .code yX7_table cX7_table 3 (some .int) :: (lkX7_table ++ (wsX70 ++ (wsV RX7 166 RX7 yX7_isForm vX7_isForm ++ (va_wsS RX7 147 yX7_in vX7_in ++ (wsV RX7 184 RX7 yX7_findLeastOf vX7_findLeastOf ++ ([]))))))
theorem q_X7_table : ∀ w ∈ vX7_table, goodWord w = true := gd_cons rfl (gd_app (by decide +kernel) (gd_app q_wsX70 (gd_app (gd_V q_X7_isForm) (gd_app (gd_S q_X7_in) (gd_app (gd_V q_X7_findLeastOf) gd_nil)))))
theorem g_X7_table_X7_isForm : GoodIn vX7_table (wsV RX7 166 RX7 yX7_isForm vX7_isForm) := gi_of (fun w h => List.mem_cons_of_mem _ (List.mem_append_right _ (List.mem_append_right _ (List.mem_append_left _ h)))) (gd_V q_X7_isForm)
theorem g_X7_table_X7_in : GoodIn vX7_table (va_wsS RX7 147 yX7_in vX7_in) := gi_of (fun w h => List.mem_cons_of_mem _ (List.mem_append_right _ (List.mem_append_right _ (List.mem_append_right _ (List.mem_append_left _ h))))) (gd_S q_X7_in)
theorem g_X7_table_X7_findLeastOf : GoodIn vX7_table (wsV RX7 184 RX7 yX7_findLeastOf vX7_findLeastOf) := gi_of (fun w h => List.mem_cons_of_mem _ (List.mem_append_right _ (List.mem_append_right _ (List.mem_append_right _ (List.mem_append_right _ (List.mem_append_left _ h)))))) (gd_V q_X7_findLeastOf)
abbrev rmX7_table : Room := { frames := 6, cells := 0, slots := 0, locals := 160 }
set_option maxHeartbeats 4000000 in
set_option maxRecDepth 100000 in
theorem c_X7_table (l : Launch) (dC : Nat → ClassId) (dI : Nat → Nat → Nat) (cI : ClassId) (cJ : ClassId) (h : Nat) (a : Nat → Nat) (fu : Nat) (sz : Nat) (forms : Int32) (prime : Int32) (turns : Int32) (lineT : Int32) (lineU : Int32) (kinds : Int32) (upper : Int64) (lower : Int64) (numbers : Nat → Int32) (q : Nat → Int64) (base : Nat → Int64) (least : Nat → Int64) (table : Nat → Int64) (rows : Nat → Int64) (lists : Nat → Int64) (listSize : Nat → Int32) (tried : Nat → Int64) (other : Nat → Int64) (line : Nat → Int64) (makers : Nat → Int64) (touches : Nat → Int64) (made : Nat → Int64) (kindForm : Nat → Int64) (kindTurns : Nat → Int32) (kindWays : Nat → Int32) (p0 : Int32) (p1 : Int32) (ro : Int32) (o_turns : Int32) (o_q : Nat → Int64) (o_base : Nat → Int64) (o_least : Nat → Int64) (o_table : Nat → Int64) (o_rows : Nat → Int64) (o_lists : Nat → Int64) (o_listSize : Nat → Int32) (o_tried : Nat → Int64) (hF : fX7_table fu forms turns numbers q base least table rows lists listSize tried p0 p1 = some (ro, o_turns, o_q, o_base, o_least, o_table, o_rows, o_lists, o_listSize, o_tried)) : Met l yX7_table vX7_table rmX7_table (va_Pc [.ref h, .int p0, .int p1] (mPc (dC, dI) vwCl (mW cI cJ h a forms prime turns lineT lineU kinds upper lower numbers q base least table rows lists listSize tried other line makers touches made kindForm kindTurns kindWays) [(cI, .int), (cJ, .long)] sz)) (va_Qi (fun x (_ : Unit) => x = ro) (mPo (dC, dI) vwCl (mW cI cJ h a forms prime o_turns lineT lineU kinds upper lower numbers o_q o_base o_least o_table o_rows o_lists o_listSize o_tried other line makers touches made kindForm kindTurns kindWays) [(cI, .int), (cJ, .long)] (va_A (mW cI cJ h a forms prime turns lineT lineU kinds upper lower numbers q base least table rows lists listSize tried other line makers touches made kindForm kindTurns kindWays) sz)) (va_A (mW cI cJ h a forms prime turns lineT lineU kinds upper lower numbers q base least table rows lists listSize tried other line makers touches made kindForm kindTurns kindWays) sz)) 0 0 (va_A (mW cI cJ h a forms prime turns lineT lineU kinds upper lower numbers q base least table rows lists listSize tried other line makers touches made kindForm kindTurns kindWays) sz) := by
  refine Met.ofW (cc := cX7_table) (maxL := 3) (ret := (some .int)) (by decide) rfl ?_
  intro p e s m args below meth c s₁ B hml hv
  obtain ⟨rfl, hsz, hP, hK, hD0⟩ := hv
  have hx := B.exec
  have hb := B.bytes
  have hr := B.returns
  have hts := atoms_spec (ws := vX7_table) B.pre
  have hlk : ∀ w ∈ lkX7_table, w.before _ s = true := fun w h => hts w (List.mem_cons_of_mem _ (List.mem_append_left _ h))
  have hown : s.vm.findClass RX7 = some m.cls := findClass_of_methodNamed B.named
  have hlocks := B.notSynchronized
  subst hsz
  have hD := hD0.self (sz := s.heap.size)
  generalize hAe : va_A (mW cI cJ h a forms prime turns lineT lineU kinds upper lower numbers q base least table rows lists listSize tried other line makers touches made kindForm kindTurns kindWays) s.heap.size = A at hD ⊢
  have hA : ∀ q : Nat, s.heap.size ≤ q → A q := fun q h => by rw [← hAe]; exact Or.inr h
  have hS : va_S A s.heap s.heap [] := va_S.rf
  have hinX7 : ∀ w ∈ wsX70, w ∈ vX7_table := fun w h => List.mem_cons_of_mem _ (List.mem_append_right _ (List.mem_append_left _ h))
  have hf_27 := hlk (.fieldLink RX7 27 "KinFormsModel" "table" "[J") (by decide +kernel)
  have hl := lv_entry ([.ref h, .int p0, .int p1] : List Value) (n := 3) (Nat.le_of_ble_eq_true rfl)
  rw [lg_entry_eq]
  generalize (lg_sl ([.ref h, .int p0, .int p1] : List Value) ++ List.replicate (3 - (lg_sl ([.ref h, .int p0, .int p1] : List Value)).length) Slot.unset).toArray = ls at hl ⊢
  have hl : lv_has ls 3 [(0, .ref h), (1, .int p0), (2, .int p1)] := hl
  unfold fX7_table at hF
  refine W_Q (fun Q hQ => ?_)
  have hP : va_P (dC, dI) vwCl (mW cI cJ h a forms prime turns lineT lineU kinds upper lower numbers q base least table rows lists listSize tried other line makers touches made kindForm kindTurns kindWays) s.heap := hP
  refine W_HL (fun H locs eH eL => ?_)
  rw [← eH] at hP
  have hS : va_S A s.heap H locs := by rw [eH, eL]; exact hS
  refine lv_aload_n hx hb dX7_table_0 rfl (lv_at hl 0 rfl) ?_
  refine lv_iload_n hx hb dX7_table_1 rfl (lv_at hl 1 rfl) ?_
  obtain ⟨r_1, hc, hF⟩ := bd1_of hF
  refine rc_i (va_runV (As := [.int p0]) (rest := []) ⟨hx, hb, hml, hown, hts⟩ (c_X7_isForm l dC dI cI cJ h a forms prime turns lineT lineU kinds upper lower numbers q base least table rows lists listSize tried other line makers touches made kindForm kindTurns kindWays p0 r_1 hc) (cwV 1 hts g_X7_table_X7_isForm rfl rfl rfl (by decide +kernel) ⟨Nat.le_of_ble_eq_true rfl, Nat.le_of_ble_eq_true rfl⟩) ⟨rPc_blind, va_recv hK hP (ci := 5) (q0 := 0) rfl rfl, rPc_at hK hP⟩ rfl rfl hl.1 rfl (lv_room (Nat.le_of_ble_eq_true rfl)) dX7_table_2 ⟨Nat.zero_le _, Nat.zero_le _⟩) ?_
  refine lv_if_ne (tgt := 11) hx hb dX7_table_5 (by decide) (fun c0 => ?_) (fun c0 => ?_)
  · have hF := if_f hF c0
    refine lv_iload_n hx hb dX7_table_11 rfl (lv_at hl 2 rfl) ?_
    refine lv_i2l (v := p1.toInt64) hx hb dX7_table_12 rfl ?_
    refine lv_lconst (v := 0) hx hb dX7_table_13 (by decide) ?_
    refine lv_ldc2 (v := (8)) hx hb hown (hlk (.constantLong RX7 187 (8)) (by decide +kernel)) dX7_table_14 ?_
    obtain ⟨r_2, hc, hF⟩ := bd1_of hF
    refine rc_i (va_runS (As := [.long p1.toInt64, .long (0 : Int64), .long (8 : Int64)]) (rest := []) ⟨hx, hb, hml, hown, hts⟩ (c_X7_in l p1.toInt64 (0 : Int64) (8 : Int64) r_2 hc) (va_cwS 3 hts g_X7_table_X7_in rfl rfl rfl (by decide +kernel) ⟨Nat.le_of_ble_eq_true rfl, Nat.le_of_ble_eq_true rfl⟩) ⟨tPc_blind, tPc_at⟩ rfl rfl hl.1 rfl (lv_room (Nat.le_of_ble_eq_true rfl)) dX7_table_17 ⟨Nat.zero_le _, Nat.zero_le _⟩) ?_
    refine lv_if_ne (tgt := 26) hx hb dX7_table_20 (by decide) (fun c0 => ?_) (fun c0 => ?_)
    · have hF := if_f hF c0
      refine lv_aload_n hx hb dX7_table_26 rfl (lv_at hl 0 rfl) ?_
      refine lv_iload_n hx hb dX7_table_27 rfl (lv_at hl 1 rfl) ?_
      obtain ⟨turns_3, q_4, base_5, least_6, table_7, rows_8, lists_9, listSize_10, tried_11, hc, hF⟩ := bd9_of hF
      refine mc_v (va_runV (As := [.int p0]) (rest := []) ⟨hx, hb, hml, hown, hts⟩ (c_X7_findLeastOf l dC dI cI cJ h a fu H.size forms prime turns lineT lineU kinds upper lower numbers q base least table rows lists listSize tried other line makers touches made kindForm kindTurns kindWays p0 turns_3 q_4 base_5 least_6 table_7 rows_8 lists_9 listSize_10 tried_11 hc) (cwV 1 hts g_X7_table_X7_findLeastOf rfl rfl rfl (by decide +kernel) ⟨Nat.le_of_ble_eq_true rfl, Nat.le_of_ble_eq_true rfl⟩) ⟨mPc_blind, va_recv hK hP (ci := 5) (q0 := 0) rfl rfl, mPc_at hK hP hD⟩ rfl rfl hl.1 rfl (lv_room (Nat.le_of_ble_eq_true rfl)) dX7_table_28 ⟨Nat.zero_le _, Nat.zero_le _⟩) hS (fr_all hD hS hA) (fun H locs hP hD hS => ?_)
      refine lv_aload_n hx hb dX7_table_31 rfl (lv_at hl 0 rfl) ?_
      refine va_get (D := (dC, dI)) (ci := 5) (v := .ref (a 5)) (C := RX7) (T := TX7) (N := 25) hx hb hts hinX7 hown hK hP 0 rfl rfl 7 (by decide) hf_27 (fun _ h9 => h9) rfl dX7_table_32 ?_
      refine lv_iload_n hx hb dX7_table_35 rfl (lv_at hl 2 rfl) ?_
      obtain ⟨hi, hF⟩ := ck_of hF
      refine va_lald hx hb hK hP 5 1 rfl rfl hi dX7_table_36 ?_
      refine lv_l2i (v := (table_7 p1.toNatClampNeg).toInt32) hx hb dX7_table_37 rfl ?_
      refine lv_topi (fun v_12 e_v_12 => ?_)
      have hF := nm_at hF e_v_12
      obtain ⟨q0, q1, q2, q3, q4, q5, q6, q7, q8, q9⟩ := sm10 hF
      have hP : va_P (dC, dI) vwCl (mW cI cJ h a forms prime o_turns lineT lineU kinds upper lower numbers o_q o_base o_least o_table o_rows o_lists o_listSize o_tried other line makers touches made kindForm kindTurns kindWays) H := by rw [← q1, ← q2, ← q3, ← q4, ← q5, ← q6, ← q7, ← q8, ← q9]; exact hP
      have hD : va_D A (mW cI cJ h a forms prime o_turns lineT lineU kinds upper lower numbers o_q o_base o_least o_table o_rows o_lists o_listSize o_tried other line makers touches made kindForm kindTurns kindWays) := by rw [← q1, ← q2, ← q3, ← q4, ← q5, ← q6, ← q7, ← q8, ← q9]; exact hD
      refine W_Qe hQ ?_
      exact W.iret hx hb hr (fun t ht hW => ⟨⟨v_12, (), rfl, q0, by rw [ht]; exact hP, va_K.moved hW.alike hK, hD⟩, hS.F ht⟩) hS.2.2 dX7_table_38
    · have hF := if_t hF c0
      refine lv_ldc (v := (-100002)) hx hb hown (hlk (.constant RX7 157 (-100002)) (by decide +kernel)) dX7_table_23 ?_
      obtain ⟨q0, q1, q2, q3, q4, q5, q6, q7, q8, q9⟩ := sm10 hF
      have hP : va_P (dC, dI) vwCl (mW cI cJ h a forms prime o_turns lineT lineU kinds upper lower numbers o_q o_base o_least o_table o_rows o_lists o_listSize o_tried other line makers touches made kindForm kindTurns kindWays) H := by rw [← q1, ← q2, ← q3, ← q4, ← q5, ← q6, ← q7, ← q8, ← q9]; exact hP
      have hD : va_D A (mW cI cJ h a forms prime o_turns lineT lineU kinds upper lower numbers o_q o_base o_least o_table o_rows o_lists o_listSize o_tried other line makers touches made kindForm kindTurns kindWays) := by rw [← q1, ← q2, ← q3, ← q4, ← q5, ← q6, ← q7, ← q8, ← q9]; exact hD
      refine W_Qe hQ ?_
      exact W.iret hx hb hr (fun t ht hW => ⟨⟨(-100002 : Int32), (), rfl, q0, by rw [ht]; exact hP, va_K.moved hW.alike hK, hD⟩, hS.F ht⟩) hS.2.2 dX7_table_25
  · have hF := if_t hF c0
    refine lv_ldc (v := (-100001)) hx hb hown (hlk (.constant RX7 170 (-100001)) (by decide +kernel)) dX7_table_8 ?_
    obtain ⟨q0, q1, q2, q3, q4, q5, q6, q7, q8, q9⟩ := sm10 hF
    have hP : va_P (dC, dI) vwCl (mW cI cJ h a forms prime o_turns lineT lineU kinds upper lower numbers o_q o_base o_least o_table o_rows o_lists o_listSize o_tried other line makers touches made kindForm kindTurns kindWays) H := by rw [← q1, ← q2, ← q3, ← q4, ← q5, ← q6, ← q7, ← q8, ← q9]; exact hP
    have hD : va_D A (mW cI cJ h a forms prime o_turns lineT lineU kinds upper lower numbers o_q o_base o_least o_table o_rows o_lists o_listSize o_tried other line makers touches made kindForm kindTurns kindWays) := by rw [← q1, ← q2, ← q3, ← q4, ← q5, ← q6, ← q7, ← q8, ← q9]; exact hD
    refine W_Qe hQ ?_
    exact W.iret hx hb hr (fun t ht hW => ⟨⟨(-100001 : Int32), (), rfl, q0, by rw [ht]; exact hP, va_K.moved hW.alike hK, hD⟩, hS.F ht⟩) hS.2.2 dX7_table_10
