def fX7_settle_L186 (k227 : (Nat → Int64) → Option ((Nat → Int64))) (x4_27 : Int32) (x1_1 : Int32) (x5_32 : Int64) : Nat → (Int32) → (Nat → Int64) → Option ((Nat → Int64))
  | 0, _, _ => none
  | n + 1, x7_33, makers_34 => if (3 : Int32) ≤ x7_33 then ((k227 makers_34)) else (nm (((3 : Int32) * x4_27) + x7_33) (fun (v_35 : Int32) => if okI v_35 12 then nm (((3 : Int32) * x1_1) + x7_33) (fun (v_36 : Int32) => if okI v_36 12 then nm (((3 : Int32) * x4_27) + x7_33) (fun (v_37 : Int32) => if okI v_37 12 then nm (vp_updL makers_34 v_37.toNatClampNeg ((makers_34 v_35.toNatClampNeg) - (x5_32 * (makers_34 v_36.toNatClampNeg)))) (fun (makers_38 : Nat → Int64) => nm (x7_33 + (1 : Int32)) (fun (x7_39 : Int32) => (fX7_settle_L186 k227 x4_27 x1_1 x5_32 n x7_39 makers_38))) else none) else none) else none))
def fX7_settle_L153 (k259 : (Int32) → (Nat → Int64) → Option ((Nat → Int64))) (x1_1 : Int32) (fu : Nat) : Nat → (Int32) → (Int32) → (Nat → Int64) → Option ((Nat → Int64))
  | 0, _, _, _ => none
  | n + 1, x2_26, x4_27, makers_28 => if (4 : Int32) ≤ x4_27 then ((k259 x2_26 makers_28)) else (nm (((3 : Int32) * x4_27) + x1_1) (fun (v_29 : Int32) => if okI v_29 12 then nm (((3 : Int32) * x1_1) + x1_1) (fun (v_30 : Int32) => if okI v_30 12 then nm (makers_28 v_30.toNatClampNeg) (fun (v_31 : Int64) => if ¬ v_31 = 0 then nm ((makers_28 v_29.toNatClampNeg) / v_31) (fun (x5_32 : Int64) => nm (fun (makers_40 : Nat → Int64) => nm (fun (s_42 : Int32) => nm (x4_27 + (1 : Int32)) (fun (x4_43 : Int32) => (fX7_settle_L153 k259 x1_1 fu n s_42 x4_43 makers_40))) (fun (k252 : (Int32) → Option ((Nat → Int64))) => nm ((k252 (1 : Int32))) (fun (k247 : Option ((Nat → Int64))) => if x2_26 = 0 then (nm (((3 : Int32) * x4_27) + x1_1) (fun (v_41 : Int32) => if okI v_41 12 then if (makers_40 v_41.toNatClampNeg) = (0 : Int64) then ((k252 (0 : Int32))) else ((k247)) else none)) else ((k247))))) (fun (k227 : (Nat → Int64) → Option ((Nat → Int64))) => (fX7_settle_L186 k227 x4_27 x1_1 x5_32 fu (0 : Int32) makers_28))) else none) else none) else none))
def fX7_settle_L86 (k146 : (Nat → Int64) → Option ((Nat → Int64))) (x3_13 : Int32) (x1_1 : Int32) : Nat → (Int32) → (Nat → Int64) → Option ((Nat → Int64))
  | 0, _, _ => none
  | n + 1, x4_14, makers_15 => if (3 : Int32) ≤ x4_14 then ((k146 makers_15)) else (nm (((3 : Int32) * x3_13) + x4_14) (fun (v_16 : Int32) => if okI v_16 12 then nm (makers_15 v_16.toNatClampNeg) (fun (x5_17 : Int64) => nm (((3 : Int32) * x1_1) + x4_14) (fun (v_18 : Int32) => if okI v_18 12 then nm (((3 : Int32) * x3_13) + x4_14) (fun (v_19 : Int32) => if okI v_19 12 then nm (vp_updL makers_15 v_19.toNatClampNeg (makers_15 v_18.toNatClampNeg)) (fun (makers_20 : Nat → Int64) => nm (((3 : Int32) * x1_1) + x4_14) (fun (v_21 : Int32) => if okI v_21 12 then nm (vp_updL makers_20 v_21.toNatClampNeg x5_17) (fun (makers_22 : Nat → Int64) => nm (x4_14 + (1 : Int32)) (fun (x4_23 : Int32) => (fX7_settle_L86 k146 x3_13 x1_1 n x4_23 makers_22))) else none)) else none) else none)) else none))
def fX7_settle_L18 (k83 : (Int32) → Option ((Nat → Int64))) (x1_1 : Int32) (makers_4 : Nat → Int64) : Nat → (Int32) → (Int32) → Option ((Nat → Int64))
  | 0, _, _ => none
  | n + 1, x3_5, x4_6 => if (4 : Int32) ≤ x4_6 then ((k83 x3_5)) else (nm (((3 : Int32) * x4_6) + x1_1) (fun (v_7 : Int32) => if okI v_7 12 then bd1 (fX7_size (makers_4 v_7.toNatClampNeg)) (fun (r_8 : Int64) => nm (fun (s_11 : Int32) => nm (x4_6 + (1 : Int32)) (fun (x4_12 : Int32) => (fX7_settle_L18 k83 x1_1 makers_4 n s_11 x4_12))) (fun (k76 : (Int32) → Option ((Nat → Int64))) => nm ((k76 x3_5)) (fun (k75 : Option ((Nat → Int64))) => if r_8 ≤ (0 : Int64) then ((k75)) else (nm ((k76 x4_6)) (fun (k70 : Option ((Nat → Int64))) => if x3_5 < 0 then ((k70)) else (nm (((3 : Int32) * x3_5) + x1_1) (fun (v_9 : Int32) => if okI v_9 12 then bd1 (fX7_size (makers_4 v_9.toNatClampNeg)) (fun (r_10 : Int64) => if r_10 ≤ r_8 then ((k75)) else ((k70))) else none))))))) else none))
def fX7_settle_L9 (k262 : (Nat → Int64) → Option ((Nat → Int64))) (x1_1 : Int32) (fu : Nat) : Nat → (Int32) → (Nat → Int64) → Option ((Nat → Int64))
  | 0, _, _ => none
  | n + 1, x2_3, makers_4 => if x2_3 = 0 then ((k262 makers_4)) else (nm (fun (x3_13 : Int32) => nm (fun (makers_24 : Nat → Int64) => nm (x1_1 + (1 : Int32)) (fun (x4_25 : Int32) => nm (fun (x2_44 : Int32) (makers_45 : Nat → Int64) => (fX7_settle_L9 k262 x1_1 fu n x2_44 makers_45)) (fun (k259 : (Int32) → (Nat → Int64) → Option ((Nat → Int64))) => (fX7_settle_L153 k259 x1_1 fu fu (0 : Int32) x4_25 makers_24)))) (fun (k146 : (Nat → Int64) → Option ((Nat → Int64))) => (fX7_settle_L86 k146 x3_13 x1_1 fu (0 : Int32) makers_4))) (fun (k83 : (Int32) → Option ((Nat → Int64))) => (fX7_settle_L18 k83 x1_1 makers_4 fu (-1 : Int32) x1_1)))
def fX7_settle_L2 (fu : Nat) : Nat → (Int32) → (Nat → Int64) → Option ((Nat → Int64))
  | 0, _, _ => none
  | n + 1, x1_1, makers_2 => if (3 : Int32) ≤ x1_1 then (some makers_2) else (nm (fun (makers_46 : Nat → Int64) => nm (x1_1 + (1 : Int32)) (fun (x1_47 : Int32) => (fX7_settle_L2 fu n x1_47 makers_46))) (fun (k262 : (Nat → Int64) → Option ((Nat → Int64))) => (fX7_settle_L9 k262 x1_1 fu fu (1 : Int32) makers_2)))
def fX7_settle (fu : Nat) (makers : Nat → Int64)  : Option ((Nat → Int64)) :=
  (fX7_settle_L2 fu fu (0 : Int32) makers)
def lkX7_settle : List Cond := [.fieldLink RX7 48 "KinFormsModel" "makers" "[J"]
def vX7_settle : List Cond := .code yX7_settle cX7_settle 8 none :: (lkX7_settle ++ (wsX70 ++ (va_wsS RX7 203 yX7_size vX7_size ++ ([]))))
theorem q_X7_settle : ∀ w ∈ vX7_settle, goodWord w = true := gd_cons rfl (gd_app (by decide +kernel) (gd_app q_wsX70 (gd_app (gd_S q_X7_size) gd_nil)))
theorem g_X7_settle_X7_size : GoodIn vX7_settle (va_wsS RX7 203 yX7_size vX7_size) := gi_of (fun w h => List.mem_cons_of_mem _ (List.mem_append_right _ (List.mem_append_right _ (List.mem_append_left _ h)))) (gd_S q_X7_size)
abbrev rmX7_settle : Room := { frames := 1, cells := 0, slots := 0, locals := 21 }
set_option maxHeartbeats 4000000 in
set_option maxRecDepth 100000 in
theorem c_X7_settle (l : Launch) (dC : Nat → ClassId) (dI : Nat → Nat → Nat) (cI : ClassId) (cJ : ClassId) (h : Nat) (a : Nat → Nat) (fu : Nat) (sz : Nat) (forms : Int32) (prime : Int32) (turns : Int32) (lineT : Int32) (lineU : Int32) (kinds : Int32) (upper : Int64) (lower : Int64) (numbers : Nat → Int32) (q : Nat → Int64) (base : Nat → Int64) (least : Nat → Int64) (table : Nat → Int64) (rows : Nat → Int64) (lists : Nat → Int64) (listSize : Nat → Int32) (tried : Nat → Int64) (other : Nat → Int64) (line : Nat → Int64) (makers : Nat → Int64) (touches : Nat → Int64) (made : Nat → Int64) (kindForm : Nat → Int64) (kindTurns : Nat → Int32) (kindWays : Nat → Int32)  (o_makers : Nat → Int64) (hF : fX7_settle fu makers = some o_makers) : Met l yX7_settle vX7_settle rmX7_settle (va_Pc [.ref h] (mPc (dC, dI) vwCl (mW cI cJ h a forms prime turns lineT lineU kinds upper lower numbers q base least table rows lists listSize tried other line makers touches made kindForm kindTurns kindWays) [(cI, .int), (cJ, .long)] sz)) (va_Qv (fun (_ : Unit) => True) (mPo (dC, dI) vwCl (mW cI cJ h a forms prime turns lineT lineU kinds upper lower numbers q base least table rows lists listSize tried other line o_makers touches made kindForm kindTurns kindWays) [(cI, .int), (cJ, .long)] (va_A (mW cI cJ h a forms prime turns lineT lineU kinds upper lower numbers q base least table rows lists listSize tried other line makers touches made kindForm kindTurns kindWays) sz)) (va_A (mW cI cJ h a forms prime turns lineT lineU kinds upper lower numbers q base least table rows lists listSize tried other line makers touches made kindForm kindTurns kindWays) sz)) 0 0 (va_A (mW cI cJ h a forms prime turns lineT lineU kinds upper lower numbers q base least table rows lists listSize tried other line makers touches made kindForm kindTurns kindWays) sz) := by
  refine Met.ofW (cc := cX7_settle) (maxL := 8) (ret := none) (by decide) rfl ?_
  intro p e s m args below meth c s₁ B hml hv
  obtain ⟨rfl, hsz, hP, hK, hD0⟩ := hv
  have hx := B.exec
  have hb := B.bytes
  have hr := B.returns
  have hts := atoms_spec (ws := vX7_settle) B.pre
  have hlk : ∀ w ∈ lkX7_settle, w.before _ s = true := fun w h => hts w (List.mem_cons_of_mem _ (List.mem_append_left _ h))
  have hown : s.vm.findClass RX7 = some m.cls := findClass_of_methodNamed B.named
  have hlocks := B.notSynchronized
  subst hsz
  have hD := hD0.self (sz := s.heap.size)
  generalize hAe : va_A (mW cI cJ h a forms prime turns lineT lineU kinds upper lower numbers q base least table rows lists listSize tried other line makers touches made kindForm kindTurns kindWays) s.heap.size = A at hD ⊢
  have hA : ∀ q : Nat, s.heap.size ≤ q → A q := fun q h => by rw [← hAe]; exact Or.inr h
  have hS : va_S A s.heap s.heap [] := va_S.rf
  have hinX7 : ∀ w ∈ wsX70, w ∈ vX7_settle := fun w h => List.mem_cons_of_mem _ (List.mem_append_right _ (List.mem_append_left _ h))
  have hf_48 := hlk (.fieldLink RX7 48 "KinFormsModel" "makers" "[J") (by decide +kernel)
  have hl := lv_entry ([.ref h] : List Value) (n := 8) (Nat.le_of_ble_eq_true rfl)
  rw [lg_entry_eq]
  generalize (lg_sl ([.ref h] : List Value) ++ List.replicate (8 - (lg_sl ([.ref h] : List Value)).length) Slot.unset).toArray = ls at hl ⊢
  have hl : lv_has ls 8 [(0, .ref h)] := hl
  unfold fX7_settle at hF
  refine W_Q (fun Q hQ => ?_)
  have hP : va_P (dC, dI) vwCl (mW cI cJ h a forms prime turns lineT lineU kinds upper lower numbers q base least table rows lists listSize tried other line makers touches made kindForm kindTurns kindWays) s.heap := hP
  refine W_HL (fun H locs eH eL => ?_)
  rw [← eH] at hP
  have hS : va_S A s.heap H locs := by rw [eH, eL]; exact hS
  refine lv_iconst (v := 0) hx hb dX7_settle_0 (by decide) ?_
  refine lv_istore_n (lv' := [(1, .int (0 : Int32)), (0, .ref h)]) hx hb dX7_settle_1 rfl hl (by decide) rfl (fun ls hl => ?_)
  have hL2 : ∀ n : Nat, ∀ (x1_1 : Int32) (makers_2 : Nat → Int64) (H : Heap) (locs : List Loc) (ls : Array Slot), va_P (dC, dI) vwCl (mW cI cJ h a forms prime turns lineT lineU kinds upper lower numbers q base least table rows lists listSize tried other line makers_2 touches made kindForm kindTurns kindWays) H → va_D A (mW cI cJ h a forms prime turns lineT lineU kinds upper lower numbers q base least table rows lists listSize tried other line makers_2 touches made kindForm kindTurns kindWays) → va_S A s.heap H locs → lv_has ls 8 [(0, .ref h), (1, .int x1_1)] → fX7_settle_L2 fu n x1_1 makers_2 = some o_makers → W p l e rmX7_settle s m ([.ref h] : List Value).toArray below meth c H locs 0 0 Q (F0 m 2 ls []) := by
    intro n
    induction n with
    | zero => intro x1_1 makers_2 H locs ls hP hD hS hl hF; rw [fX7_settle_L2] at hF; cases hF
    | succ n ih2 =>
      intro x1_1 makers_2 H locs ls hP hD hS hl hF
      rw [fX7_settle_L2] at hF
      refine lv_iload_n hx hb dX7_settle_2 rfl (lv_at hl 1 rfl) ?_
      refine lv_iconst (v := 3) hx hb dX7_settle_3 (by decide) ?_
      refine lv_icmp_ge (tgt := 268) hx hb dX7_settle_4 (by decide) (fun c0 => ?_) (fun c0 => ?_)
      · have hF := if_t hF c0
        have q0 := sm1 hF
        have hP : va_P (dC, dI) vwCl (mW cI cJ h a forms prime turns lineT lineU kinds upper lower numbers q base least table rows lists listSize tried other line o_makers touches made kindForm kindTurns kindWays) H := by rw [← q0]; exact hP
        have hD : va_D A (mW cI cJ h a forms prime turns lineT lineU kinds upper lower numbers q base least table rows lists listSize tried other line o_makers touches made kindForm kindTurns kindWays) := by rw [← q0]; exact hD
        refine W_Qe hQ ?_
        exact W.vret hx hb hr (fun t ht hW => ⟨⟨(), rfl, trivial, by rw [ht]; exact hP, va_K.moved hW.alike hK, hD⟩, hS.F ht⟩) hS.2.2 dX7_settle_268
      · have hF := if_f hF c0
        refine lv_iconst (v := 1) hx hb dX7_settle_7 (by decide) ?_
        refine lv_istore_n (lv' := [(2, .int (1 : Int32)), (0, .ref h), (1, .int x1_1)]) hx hb dX7_settle_8 rfl hl (by decide) rfl (fun ls hl => ?_)
        obtain ⟨k262, e_k262, hF⟩ := nm_ex hF
        have hk262 : ∀ (makers_46 : Nat → Int64) (H : Heap) (locs : List Loc) (ls : Array Slot), va_P (dC, dI) vwCl (mW cI cJ h a forms prime turns lineT lineU kinds upper lower numbers q base least table rows lists listSize tried other line makers_46 touches made kindForm kindTurns kindWays) H → va_D A (mW cI cJ h a forms prime turns lineT lineU kinds upper lower numbers q base least table rows lists listSize tried other line makers_46 touches made kindForm kindTurns kindWays) → va_S A s.heap H locs → lv_has ls 8 [(0, .ref h), (1, .int x1_1)] → k262 makers_46 = some o_makers → W p l e rmX7_settle s m ([.ref h] : List Value).toArray below meth c H locs 0 0 Q (F0 m 262 ls []) := by
          intro makers_46 H locs ls hP hD hS hl hF
          have hF := ka1 e_k262 hF
          obtain ⟨x1_47, e_x1_47, hF⟩ := nm_ex hF
          refine lv_iinc (v := x1_47) (lv' := [(1, .int x1_47), (0, .ref h)]) hx hb dX7_settle_262 hl (k := 1) rfl (by rw [e_x1_47]; rfl) (by decide) rfl (fun ls hl => ?_)
          refine lv_goto (tgt := 2) hx hb dX7_settle_265 (by decide) ?_
          exact ih2 x1_47 makers_46 H locs ls hP hD hS (lv_sub hl [1, 0] rfl) hF
        clear e_k262
        have hL9 : ∀ n : Nat, ∀ (x2_3 : Int32) (makers_4 : Nat → Int64) (H : Heap) (locs : List Loc) (ls : Array Slot), va_P (dC, dI) vwCl (mW cI cJ h a forms prime turns lineT lineU kinds upper lower numbers q base least table rows lists listSize tried other line makers_4 touches made kindForm kindTurns kindWays) H → va_D A (mW cI cJ h a forms prime turns lineT lineU kinds upper lower numbers q base least table rows lists listSize tried other line makers_4 touches made kindForm kindTurns kindWays) → va_S A s.heap H locs → lv_has ls 8 [(0, .ref h), (1, .int x1_1), (2, .int x2_3)] → fX7_settle_L9 k262 x1_1 fu n x2_3 makers_4 = some o_makers → W p l e rmX7_settle s m ([.ref h] : List Value).toArray below meth c H locs 0 0 Q (F0 m 9 ls []) := by
          intro n
          induction n with
          | zero => intro x2_3 makers_4 H locs ls hP hD hS hl hF; rw [fX7_settle_L9] at hF; cases hF
          | succ n ih9 =>
            intro x2_3 makers_4 H locs ls hP hD hS hl hF
            rw [fX7_settle_L9] at hF
            refine lv_iload_n hx hb dX7_settle_9 rfl (lv_at hl 2 rfl) ?_
            refine lv_if_eq (tgt := 262) hx hb dX7_settle_10 (by decide) (fun c0 => ?_) (fun c0 => ?_)
            · have hF := if_t hF c0
              exact hk262 makers_4 H locs ls hP hD hS (lv_sub hl [0, 1] rfl) hF
            · have hF := if_f hF c0
              refine lv_iconst (v := (-1)) hx hb dX7_settle_13 (by decide) ?_
              refine lv_istore_n (lv' := [(3, .int (-1 : Int32)), (0, .ref h), (1, .int x1_1), (2, .int x2_3)]) hx hb dX7_settle_14 rfl hl (by decide) rfl (fun ls hl => ?_)
              refine lv_iload_n hx hb dX7_settle_15 rfl (lv_at hl 2 rfl) ?_
              refine lv_istore (lv' := [(4, .int x1_1), (3, .int (-1 : Int32)), (0, .ref h), (1, .int x1_1), (2, .int x2_3)]) hx hb dX7_settle_16 hl (by decide) rfl (fun ls hl => ?_)
              obtain ⟨k83, e_k83, hF⟩ := nm_ex hF
              have hk83 : ∀ (x3_13 : Int32) (H : Heap) (locs : List Loc) (ls : Array Slot), va_P (dC, dI) vwCl (mW cI cJ h a forms prime turns lineT lineU kinds upper lower numbers q base least table rows lists listSize tried other line makers_4 touches made kindForm kindTurns kindWays) H → va_D A (mW cI cJ h a forms prime turns lineT lineU kinds upper lower numbers q base least table rows lists listSize tried other line makers_4 touches made kindForm kindTurns kindWays) → va_S A s.heap H locs → lv_has ls 8 [(0, .ref h), (1, .int x1_1), (3, .int x3_13)] → k83 x3_13 = some o_makers → W p l e rmX7_settle s m ([.ref h] : List Value).toArray below meth c H locs 0 0 Q (F0 m 83 ls []) := by
                intro x3_13 H locs ls hP hD hS hl hF
                have hF := ka1 e_k83 hF
                refine lv_iconst (v := 0) hx hb dX7_settle_83 (by decide) ?_
                refine lv_istore (lv' := [(4, .int (0 : Int32)), (0, .ref h), (1, .int x1_1), (3, .int x3_13)]) hx hb dX7_settle_84 hl (by decide) rfl (fun ls hl => ?_)
                obtain ⟨k146, e_k146, hF⟩ := nm_ex hF
                have hk146 : ∀ (makers_24 : Nat → Int64) (H : Heap) (locs : List Loc) (ls : Array Slot), va_P (dC, dI) vwCl (mW cI cJ h a forms prime turns lineT lineU kinds upper lower numbers q base least table rows lists listSize tried other line makers_24 touches made kindForm kindTurns kindWays) H → va_D A (mW cI cJ h a forms prime turns lineT lineU kinds upper lower numbers q base least table rows lists listSize tried other line makers_24 touches made kindForm kindTurns kindWays) → va_S A s.heap H locs → lv_has ls 8 [(0, .ref h), (1, .int x1_1)] → k146 makers_24 = some o_makers → W p l e rmX7_settle s m ([.ref h] : List Value).toArray below meth c H locs 0 0 Q (F0 m 146 ls []) := by
                  intro makers_24 H locs ls hP hD hS hl hF
                  have hF := ka1 e_k146 hF
                  refine lv_iconst (v := 0) hx hb dX7_settle_146 (by decide) ?_
                  refine lv_istore_n (lv' := [(2, .int (0 : Int32)), (0, .ref h), (1, .int x1_1)]) hx hb dX7_settle_147 rfl hl (by decide) rfl (fun ls hl => ?_)
                  refine lv_iload_n hx hb dX7_settle_148 rfl (lv_at hl 2 rfl) ?_
                  refine lv_iconst (v := 1) hx hb dX7_settle_149 (by decide) ?_
                  refine lv_iadd hx hb dX7_settle_150 ?_
                  refine lv_topi (fun x4_25 e_x4_25 => ?_)
                  have hF := nm_at hF e_x4_25
                  refine lv_istore (lv' := [(4, .int x4_25), (2, .int (0 : Int32)), (0, .ref h), (1, .int x1_1)]) hx hb dX7_settle_151 hl (by decide) rfl (fun ls hl => ?_)
                  obtain ⟨k259, e_k259, hF⟩ := nm_ex hF
                  have hk259 : ∀ (x2_44 : Int32) (makers_45 : Nat → Int64) (H : Heap) (locs : List Loc) (ls : Array Slot), va_P (dC, dI) vwCl (mW cI cJ h a forms prime turns lineT lineU kinds upper lower numbers q base least table rows lists listSize tried other line makers_45 touches made kindForm kindTurns kindWays) H → va_D A (mW cI cJ h a forms prime turns lineT lineU kinds upper lower numbers q base least table rows lists listSize tried other line makers_45 touches made kindForm kindTurns kindWays) → va_S A s.heap H locs → lv_has ls 8 [(0, .ref h), (1, .int x1_1), (2, .int x2_44)] → k259 x2_44 makers_45 = some o_makers → W p l e rmX7_settle s m ([.ref h] : List Value).toArray below meth c H locs 0 0 Q (F0 m 259 ls []) := by
                    intro x2_44 makers_45 H locs ls hP hD hS hl hF
                    have hF := ka2 e_k259 hF
                    refine lv_goto (tgt := 9) hx hb dX7_settle_259 (by decide) ?_
                    exact ih9 x2_44 makers_45 H locs ls hP hD hS (lv_sub hl [0, 1, 2] rfl) hF
                  clear e_k259
                  have hL153 : ∀ n : Nat, ∀ (x2_26 : Int32) (x4_27 : Int32) (makers_28 : Nat → Int64) (H : Heap) (locs : List Loc) (ls : Array Slot), va_P (dC, dI) vwCl (mW cI cJ h a forms prime turns lineT lineU kinds upper lower numbers q base least table rows lists listSize tried other line makers_28 touches made kindForm kindTurns kindWays) H → va_D A (mW cI cJ h a forms prime turns lineT lineU kinds upper lower numbers q base least table rows lists listSize tried other line makers_28 touches made kindForm kindTurns kindWays) → va_S A s.heap H locs → lv_has ls 8 [(0, .ref h), (1, .int x1_1), (2, .int x2_26), (4, .int x4_27)] → fX7_settle_L153 k259 x1_1 fu n x2_26 x4_27 makers_28 = some o_makers → W p l e rmX7_settle s m ([.ref h] : List Value).toArray below meth c H locs 0 0 Q (F0 m 153 ls []) := by
                    intro n
                    induction n with
                    | zero => intro x2_26 x4_27 makers_28 H locs ls hP hD hS hl hF; rw [fX7_settle_L153] at hF; cases hF
                    | succ n ih153 =>
                      intro x2_26 x4_27 makers_28 H locs ls hP hD hS hl hF
                      rw [fX7_settle_L153] at hF
                      refine lv_iload hx hb dX7_settle_153 (lv_at hl 3 rfl) ?_
                      refine lv_iconst (v := 4) hx hb dX7_settle_155 (by decide) ?_
                      refine lv_icmp_ge (tgt := 259) hx hb dX7_settle_156 (by decide) (fun c0 => ?_) (fun c0 => ?_)
                      · have hF := if_t hF c0
                        exact hk259 x2_26 makers_28 H locs ls hP hD hS (lv_sub hl [0, 1, 2] rfl) hF
                      · have hF := if_f hF c0
                        refine lv_aload_n hx hb dX7_settle_159 rfl (lv_at hl 0 rfl) ?_
                        refine va_get (D := (dC, dI)) (ci := 5) (v := .ref (a 12)) (C := RX7) (T := TX7) (N := 25) hx hb hts hinX7 hown hK hP 0 rfl rfl 16 (by decide) hf_48 (fun _ h9 => h9) rfl dX7_settle_160 ?_
                        refine lv_iconst (v := 3) hx hb dX7_settle_163 (by decide) ?_
                        refine lv_iload hx hb dX7_settle_164 (lv_at hl 3 rfl) ?_
                        refine lv_imul hx hb dX7_settle_166 ?_
                        refine lv_iload_n hx hb dX7_settle_167 rfl (lv_at hl 1 rfl) ?_
                        refine lv_iadd hx hb dX7_settle_168 ?_
                        refine lv_topi (fun v_29 e_v_29 => ?_)
                        have hF := nm_at hF e_v_29
                        obtain ⟨hi, hF⟩ := ck_of hF
                        refine va_lald hx hb hK hP 12 1 rfl rfl hi dX7_settle_169 ?_
                        refine lv_aload_n hx hb dX7_settle_170 rfl (lv_at hl 0 rfl) ?_
                        refine va_get (D := (dC, dI)) (ci := 5) (v := .ref (a 12)) (C := RX7) (T := TX7) (N := 25) hx hb hts hinX7 hown hK hP 0 rfl rfl 16 (by decide) hf_48 (fun _ h9 => h9) rfl dX7_settle_171 ?_
                        refine lv_iconst (v := 3) hx hb dX7_settle_174 (by decide) ?_
                        refine lv_iload_n hx hb dX7_settle_175 rfl (lv_at hl 1 rfl) ?_
                        refine lv_imul hx hb dX7_settle_176 ?_
                        refine lv_iload_n hx hb dX7_settle_177 rfl (lv_at hl 1 rfl) ?_
                        refine lv_iadd hx hb dX7_settle_178 ?_
                        refine lv_topi (fun v_30 e_v_30 => ?_)
                        have hF := nm_at hF e_v_30
                        obtain ⟨hi, hF⟩ := ck_of hF
                        refine va_lald hx hb hK hP 12 1 rfl rfl hi dX7_settle_179 ?_
                        refine lv_topl (fun v_31 e_v_31 => ?_)
                        have hF := nm_at hF e_v_31
                        obtain ⟨hz, hF⟩ := ck_of hF
                        refine lv_ldiv hx hb dX7_settle_180 hz ?_
                        refine lv_topl (fun x5_32 e_x5_32 => ?_)
                        have hF := nm_at hF e_x5_32
                        refine lv_lstore (lv' := [(5, .long x5_32), (0, .ref h), (1, .int x1_1), (2, .int x2_26), (4, .int x4_27)]) hx hb dX7_settle_181 hl (by decide) rfl (fun ls hl => ?_)
                        refine lv_iconst (v := 0) hx hb dX7_settle_183 (by decide) ?_
                        refine lv_istore (lv' := [(7, .int (0 : Int32)), (5, .long x5_32), (0, .ref h), (1, .int x1_1), (2, .int x2_26), (4, .int x4_27)]) hx hb dX7_settle_184 hl (by decide) rfl (fun ls hl => ?_)
                        obtain ⟨k227, e_k227, hF⟩ := nm_ex hF
                        have hk227 : ∀ (makers_40 : Nat → Int64) (H : Heap) (locs : List Loc) (ls : Array Slot), va_P (dC, dI) vwCl (mW cI cJ h a forms prime turns lineT lineU kinds upper lower numbers q base least table rows lists listSize tried other line makers_40 touches made kindForm kindTurns kindWays) H → va_D A (mW cI cJ h a forms prime turns lineT lineU kinds upper lower numbers q base least table rows lists listSize tried other line makers_40 touches made kindForm kindTurns kindWays) → va_S A s.heap H locs → lv_has ls 8 [(0, .ref h), (1, .int x1_1), (2, .int x2_26), (4, .int x4_27)] → k227 makers_40 = some o_makers → W p l e rmX7_settle s m ([.ref h] : List Value).toArray below meth c H locs 0 0 Q (F0 m 227 ls []) := by
                          intro makers_40 H locs ls hP hD hS hl hF
                          have hF := ka1 e_k227 hF
                          refine lv_iload_n hx hb dX7_settle_227 rfl (lv_at hl 2 rfl) ?_
                          obtain ⟨k252, e_k252, hF⟩ := nm_ex hF
                          have hk252 : ∀ (s_42 : Int32) (H : Heap) (locs : List Loc) (ls : Array Slot), va_P (dC, dI) vwCl (mW cI cJ h a forms prime turns lineT lineU kinds upper lower numbers q base least table rows lists listSize tried other line makers_40 touches made kindForm kindTurns kindWays) H → va_D A (mW cI cJ h a forms prime turns lineT lineU kinds upper lower numbers q base least table rows lists listSize tried other line makers_40 touches made kindForm kindTurns kindWays) → va_S A s.heap H locs → lv_has ls 8 [(0, .ref h), (1, .int x1_1), (4, .int x4_27)] → k252 s_42 = some o_makers → W p l e rmX7_settle s m ([.ref h] : List Value).toArray below meth c H locs 0 0 Q (F0 m 252 ls [.int s_42]) := by
                            intro s_42 H locs ls hP hD hS hl hF
                            have hF := ka1 e_k252 hF
                            refine lv_istore_n (lv' := [(2, .int s_42), (0, .ref h), (1, .int x1_1), (4, .int x4_27)]) hx hb dX7_settle_252 rfl hl (by decide) rfl (fun ls hl => ?_)
                            obtain ⟨x4_43, e_x4_43, hF⟩ := nm_ex hF
                            refine lv_iinc (v := x4_43) (lv' := [(4, .int x4_43), (2, .int s_42), (0, .ref h), (1, .int x1_1)]) hx hb dX7_settle_253 hl (k := 3) rfl (by rw [e_x4_43]; rfl) (by decide) rfl (fun ls hl => ?_)
                            refine lv_goto (tgt := 153) hx hb dX7_settle_256 (by decide) ?_
                            exact ih153 s_42 x4_43 makers_40 H locs ls hP hD hS (lv_sub hl [2, 3, 1, 0] rfl) hF
                          clear e_k252
                          obtain ⟨k247, e_k247, hF⟩ := nm_ex hF
                          have hk247 : ∀  (H : Heap) (locs : List Loc) (ls : Array Slot), va_P (dC, dI) vwCl (mW cI cJ h a forms prime turns lineT lineU kinds upper lower numbers q base least table rows lists listSize tried other line makers_40 touches made kindForm kindTurns kindWays) H → va_D A (mW cI cJ h a forms prime turns lineT lineU kinds upper lower numbers q base least table rows lists listSize tried other line makers_40 touches made kindForm kindTurns kindWays) → va_S A s.heap H locs → lv_has ls 8 [(0, .ref h), (1, .int x1_1), (4, .int x4_27)] → k247 = some o_makers → W p l e rmX7_settle s m ([.ref h] : List Value).toArray below meth c H locs 0 0 Q (F0 m 247 ls []) := by
                            intro H locs ls hP hD hS hl hF
                            have hF := ka0 e_k247 hF
                            refine lv_iconst (v := 1) hx hb dX7_settle_247 (by decide) ?_
                            refine lv_goto (tgt := 252) hx hb dX7_settle_248 (by decide) ?_
                            exact hk252 (1 : Int32) H locs ls hP hD hS (lv_sub hl [0, 1, 2] rfl) hF
                          clear e_k247
                          refine lv_if_ne (tgt := 247) hx hb dX7_settle_228 (by decide) (fun c0 => ?_) (fun c0 => ?_)
                          · have hF := if_f hF c0
                            exact hk247 H locs ls hP hD hS (lv_sub hl [0, 1, 3] rfl) hF
                          · have hF := if_t hF c0
                            refine lv_aload_n hx hb dX7_settle_231 rfl (lv_at hl 0 rfl) ?_
                            refine va_get (D := (dC, dI)) (ci := 5) (v := .ref (a 12)) (C := RX7) (T := TX7) (N := 25) hx hb hts hinX7 hown hK hP 0 rfl rfl 16 (by decide) hf_48 (fun _ h9 => h9) rfl dX7_settle_232 ?_
                            refine lv_iconst (v := 3) hx hb dX7_settle_235 (by decide) ?_
                            refine lv_iload hx hb dX7_settle_236 (lv_at hl 3 rfl) ?_
                            refine lv_imul hx hb dX7_settle_238 ?_
                            refine lv_iload_n hx hb dX7_settle_239 rfl (lv_at hl 1 rfl) ?_
                            refine lv_iadd hx hb dX7_settle_240 ?_
                            refine lv_topi (fun v_41 e_v_41 => ?_)
                            have hF := nm_at hF e_v_41
                            obtain ⟨hi, hF⟩ := ck_of hF
                            refine va_lald hx hb hK hP 12 1 rfl rfl hi dX7_settle_241 ?_
                            refine lv_lconst (v := 0) hx hb dX7_settle_242 (by decide) ?_
                            refine W.lcmp hx hb dX7_settle_243 ?_
                            refine lv_if_eq (tgt := 251) hx hb dX7_settle_244 (by decide) (fun c0 => ?_) (fun c0 => ?_)
                            · have c0 := (lg_cmp_eq _ _).mp c0
                              have hF := if_t hF c0
                              refine lv_iconst (v := 0) hx hb dX7_settle_251 (by decide) ?_
                              exact hk252 (0 : Int32) H locs ls hP hD hS (lv_sub hl [0, 1, 3] rfl) hF
                            · have c0 := (not_congr (lg_cmp_eq _ _)).mp c0
                              have hF := if_f hF c0
                              exact hk247 H locs ls hP hD hS (lv_sub hl [0, 1, 3] rfl) hF
                        clear e_k227
                        have hL186 : ∀ n : Nat, ∀ (x7_33 : Int32) (makers_34 : Nat → Int64) (H : Heap) (locs : List Loc) (ls : Array Slot), va_P (dC, dI) vwCl (mW cI cJ h a forms prime turns lineT lineU kinds upper lower numbers q base least table rows lists listSize tried other line makers_34 touches made kindForm kindTurns kindWays) H → va_D A (mW cI cJ h a forms prime turns lineT lineU kinds upper lower numbers q base least table rows lists listSize tried other line makers_34 touches made kindForm kindTurns kindWays) → va_S A s.heap H locs → lv_has ls 8 [(0, .ref h), (1, .int x1_1), (2, .int x2_26), (4, .int x4_27), (5, .long x5_32), (7, .int x7_33)] → fX7_settle_L186 k227 x4_27 x1_1 x5_32 n x7_33 makers_34 = some o_makers → W p l e rmX7_settle s m ([.ref h] : List Value).toArray below meth c H locs 0 0 Q (F0 m 186 ls []) := by
                          intro n
                          induction n with
                          | zero => intro x7_33 makers_34 H locs ls hP hD hS hl hF; rw [fX7_settle_L186] at hF; cases hF
                          | succ n ih186 =>
                            intro x7_33 makers_34 H locs ls hP hD hS hl hF
                            rw [fX7_settle_L186] at hF
                            refine lv_iload hx hb dX7_settle_186 (lv_at hl 5 rfl) ?_
                            refine lv_iconst (v := 3) hx hb dX7_settle_188 (by decide) ?_
                            refine lv_icmp_ge (tgt := 227) hx hb dX7_settle_189 (by decide) (fun c0 => ?_) (fun c0 => ?_)
                            · have hF := if_t hF c0
                              exact hk227 makers_34 H locs ls hP hD hS (lv_sub hl [0, 1, 2, 3] rfl) hF
                            · have hF := if_f hF c0
                              refine lv_aload_n hx hb dX7_settle_192 rfl (lv_at hl 0 rfl) ?_
                              refine va_get (D := (dC, dI)) (ci := 5) (v := .ref (a 12)) (C := RX7) (T := TX7) (N := 25) hx hb hts hinX7 hown hK hP 0 rfl rfl 16 (by decide) hf_48 (fun _ h9 => h9) rfl dX7_settle_193 ?_
                              refine lv_iconst (v := 3) hx hb dX7_settle_196 (by decide) ?_
                              refine lv_iload hx hb dX7_settle_197 (lv_at hl 3 rfl) ?_
                              refine lv_imul hx hb dX7_settle_199 ?_
                              refine lv_iload hx hb dX7_settle_200 (lv_at hl 5 rfl) ?_
                              refine lv_iadd hx hb dX7_settle_202 ?_
                              refine lv_dup2_11 hx hb dX7_settle_203 rfl rfl ?_
                              refine lv_topi (fun v_35 e_v_35 => ?_)
                              have hF := nm_at hF e_v_35
                              obtain ⟨hi, hF⟩ := ck_of hF
                              refine va_lald hx hb hK hP 12 1 rfl rfl hi dX7_settle_204 ?_
                              refine lv_lload hx hb dX7_settle_205 (lv_at hl 4 rfl) ?_
                              refine lv_aload_n hx hb dX7_settle_207 rfl (lv_at hl 0 rfl) ?_
                              refine va_get (D := (dC, dI)) (ci := 5) (v := .ref (a 12)) (C := RX7) (T := TX7) (N := 25) hx hb hts hinX7 hown hK hP 0 rfl rfl 16 (by decide) hf_48 (fun _ h9 => h9) rfl dX7_settle_208 ?_
                              refine lv_iconst (v := 3) hx hb dX7_settle_211 (by decide) ?_
                              refine lv_iload_n hx hb dX7_settle_212 rfl (lv_at hl 1 rfl) ?_
                              refine lv_imul hx hb dX7_settle_213 ?_
                              refine lv_iload hx hb dX7_settle_214 (lv_at hl 5 rfl) ?_
                              refine lv_iadd hx hb dX7_settle_216 ?_
                              refine lv_topi (fun v_36 e_v_36 => ?_)
                              have hF := nm_at hF e_v_36
                              obtain ⟨hi, hF⟩ := ck_of hF
                              refine va_lald hx hb hK hP 12 1 rfl rfl hi dX7_settle_217 ?_
                              refine lv_lmul hx hb dX7_settle_218 ?_
                              refine lv_lsub hx hb dX7_settle_219 ?_
                              obtain ⟨v_37, e_v_37, hF⟩ := nm_ex hF
                              rw [← e_v_37]
                              obtain ⟨hi, hF⟩ := ck_of hF
                              obtain ⟨makers_38, e_makers_38, hF⟩ := nm_ex hF
                              refine kc_last (j := v_37.toNatClampNeg) (g := makers_38) hx hb hK hP hD hS 12 1 rfl rfl rfl hi dX7_settle_220 e_makers_38 (fun H locs hP hD hS => ?_)
                              have hP : va_P (dC, dI) vwCl (mW cI cJ h a forms prime turns lineT lineU kinds upper lower numbers q base least table rows lists listSize tried other line makers_38 touches made kindForm kindTurns kindWays) H := hP
                              have hD : va_D A (mW cI cJ h a forms prime turns lineT lineU kinds upper lower numbers q base least table rows lists listSize tried other line makers_38 touches made kindForm kindTurns kindWays) := hD
                              obtain ⟨x7_39, e_x7_39, hF⟩ := nm_ex hF
                              refine lv_iinc (v := x7_39) (lv' := [(7, .int x7_39), (0, .ref h), (1, .int x1_1), (2, .int x2_26), (4, .int x4_27), (5, .long x5_32)]) hx hb dX7_settle_221 hl (k := 5) rfl (by rw [e_x7_39]; rfl) (by decide) rfl (fun ls hl => ?_)
                              refine lv_goto (tgt := 186) hx hb dX7_settle_224 (by decide) ?_
                              exact ih186 x7_39 makers_38 H locs ls hP hD hS (lv_sub hl [1, 2, 3, 4, 5, 0] rfl) hF
                        exact hL186 fu (0 : Int32) makers_28 H locs ls hP hD hS (lv_sub hl [2, 3, 4, 5, 1, 0] rfl) hF
                  exact hL153 fu (0 : Int32) x4_25 makers_24 H locs ls hP hD hS (lv_sub hl [2, 3, 1, 0] rfl) hF
                clear e_k146
                have hL86 : ∀ n : Nat, ∀ (x4_14 : Int32) (makers_15 : Nat → Int64) (H : Heap) (locs : List Loc) (ls : Array Slot), va_P (dC, dI) vwCl (mW cI cJ h a forms prime turns lineT lineU kinds upper lower numbers q base least table rows lists listSize tried other line makers_15 touches made kindForm kindTurns kindWays) H → va_D A (mW cI cJ h a forms prime turns lineT lineU kinds upper lower numbers q base least table rows lists listSize tried other line makers_15 touches made kindForm kindTurns kindWays) → va_S A s.heap H locs → lv_has ls 8 [(0, .ref h), (1, .int x1_1), (3, .int x3_13), (4, .int x4_14)] → fX7_settle_L86 k146 x3_13 x1_1 n x4_14 makers_15 = some o_makers → W p l e rmX7_settle s m ([.ref h] : List Value).toArray below meth c H locs 0 0 Q (F0 m 86 ls []) := by
                  intro n
                  induction n with
                  | zero => intro x4_14 makers_15 H locs ls hP hD hS hl hF; rw [fX7_settle_L86] at hF; cases hF
                  | succ n ih86 =>
                    intro x4_14 makers_15 H locs ls hP hD hS hl hF
                    rw [fX7_settle_L86] at hF
                    refine lv_iload hx hb dX7_settle_86 (lv_at hl 3 rfl) ?_
                    refine lv_iconst (v := 3) hx hb dX7_settle_88 (by decide) ?_
                    refine lv_icmp_ge (tgt := 146) hx hb dX7_settle_89 (by decide) (fun c0 => ?_) (fun c0 => ?_)
                    · have hF := if_t hF c0
                      exact hk146 makers_15 H locs ls hP hD hS (lv_sub hl [0, 1] rfl) hF
                    · have hF := if_f hF c0
                      refine lv_aload_n hx hb dX7_settle_92 rfl (lv_at hl 0 rfl) ?_
                      refine va_get (D := (dC, dI)) (ci := 5) (v := .ref (a 12)) (C := RX7) (T := TX7) (N := 25) hx hb hts hinX7 hown hK hP 0 rfl rfl 16 (by decide) hf_48 (fun _ h9 => h9) rfl dX7_settle_93 ?_
                      refine lv_iconst (v := 3) hx hb dX7_settle_96 (by decide) ?_
                      refine lv_iload_n hx hb dX7_settle_97 rfl (lv_at hl 2 rfl) ?_
                      refine lv_imul hx hb dX7_settle_98 ?_
                      refine lv_iload hx hb dX7_settle_99 (lv_at hl 3 rfl) ?_
                      refine lv_iadd hx hb dX7_settle_101 ?_
                      refine lv_topi (fun v_16 e_v_16 => ?_)
                      have hF := nm_at hF e_v_16
                      obtain ⟨hi, hF⟩ := ck_of hF
                      refine va_lald hx hb hK hP 12 1 rfl rfl hi dX7_settle_102 ?_
                      refine lv_topl (fun x5_17 e_x5_17 => ?_)
                      have hF := nm_at hF e_x5_17
                      refine lv_lstore (lv' := [(5, .long x5_17), (0, .ref h), (1, .int x1_1), (3, .int x3_13), (4, .int x4_14)]) hx hb dX7_settle_103 hl (by decide) rfl (fun ls hl => ?_)
                      refine lv_aload_n hx hb dX7_settle_105 rfl (lv_at hl 1 rfl) ?_
                      refine va_get (D := (dC, dI)) (ci := 5) (v := .ref (a 12)) (C := RX7) (T := TX7) (N := 25) hx hb hts hinX7 hown hK hP 0 rfl rfl 16 (by decide) hf_48 (fun _ h9 => h9) rfl dX7_settle_106 ?_
                      refine lv_iconst (v := 3) hx hb dX7_settle_109 (by decide) ?_
                      refine lv_iload_n hx hb dX7_settle_110 rfl (lv_at hl 3 rfl) ?_
                      refine lv_imul hx hb dX7_settle_111 ?_
                      refine lv_iload hx hb dX7_settle_112 (lv_at hl 4 rfl) ?_
                      refine lv_iadd hx hb dX7_settle_114 ?_
                      refine lv_aload_n hx hb dX7_settle_115 rfl (lv_at hl 1 rfl) ?_
                      refine va_get (D := (dC, dI)) (ci := 5) (v := .ref (a 12)) (C := RX7) (T := TX7) (N := 25) hx hb hts hinX7 hown hK hP 0 rfl rfl 16 (by decide) hf_48 (fun _ h9 => h9) rfl dX7_settle_116 ?_
                      refine lv_iconst (v := 3) hx hb dX7_settle_119 (by decide) ?_
                      refine lv_iload_n hx hb dX7_settle_120 rfl (lv_at hl 2 rfl) ?_
                      refine lv_imul hx hb dX7_settle_121 ?_
                      refine lv_iload hx hb dX7_settle_122 (lv_at hl 4 rfl) ?_
                      refine lv_iadd hx hb dX7_settle_124 ?_
                      refine lv_topi (fun v_18 e_v_18 => ?_)
                      have hF := nm_at hF e_v_18
                      obtain ⟨hi, hF⟩ := ck_of hF
                      refine va_lald hx hb hK hP 12 1 rfl rfl hi dX7_settle_125 ?_
                      obtain ⟨v_19, e_v_19, hF⟩ := nm_ex hF
                      rw [← e_v_19]
                      obtain ⟨hi, hF⟩ := ck_of hF
                      obtain ⟨makers_20, e_makers_20, hF⟩ := nm_ex hF
                      refine kc_last (j := v_19.toNatClampNeg) (g := makers_20) hx hb hK hP hD hS 12 1 rfl rfl rfl hi dX7_settle_126 e_makers_20 (fun H locs hP hD hS => ?_)
                      have hP : va_P (dC, dI) vwCl (mW cI cJ h a forms prime turns lineT lineU kinds upper lower numbers q base least table rows lists listSize tried other line makers_20 touches made kindForm kindTurns kindWays) H := hP
                      have hD : va_D A (mW cI cJ h a forms prime turns lineT lineU kinds upper lower numbers q base least table rows lists listSize tried other line makers_20 touches made kindForm kindTurns kindWays) := hD
                      refine lv_aload_n hx hb dX7_settle_127 rfl (lv_at hl 1 rfl) ?_
                      refine va_get (D := (dC, dI)) (ci := 5) (v := .ref (a 12)) (C := RX7) (T := TX7) (N := 25) hx hb hts hinX7 hown hK hP 0 rfl rfl 16 (by decide) hf_48 (fun _ h9 => h9) rfl dX7_settle_128 ?_
                      refine lv_iconst (v := 3) hx hb dX7_settle_131 (by decide) ?_
                      refine lv_iload_n hx hb dX7_settle_132 rfl (lv_at hl 2 rfl) ?_
                      refine lv_imul hx hb dX7_settle_133 ?_
                      refine lv_iload hx hb dX7_settle_134 (lv_at hl 4 rfl) ?_
                      refine lv_iadd hx hb dX7_settle_136 ?_
                      refine lv_lload hx hb dX7_settle_137 (lv_at hl 0 rfl) ?_
                      obtain ⟨v_21, e_v_21, hF⟩ := nm_ex hF
                      rw [← e_v_21]
                      obtain ⟨hi, hF⟩ := ck_of hF
                      obtain ⟨makers_22, e_makers_22, hF⟩ := nm_ex hF
                      refine kc_last (j := v_21.toNatClampNeg) (g := makers_22) hx hb hK hP hD hS 12 1 rfl rfl rfl hi dX7_settle_139 e_makers_22 (fun H locs hP hD hS => ?_)
                      have hP : va_P (dC, dI) vwCl (mW cI cJ h a forms prime turns lineT lineU kinds upper lower numbers q base least table rows lists listSize tried other line makers_22 touches made kindForm kindTurns kindWays) H := hP
                      have hD : va_D A (mW cI cJ h a forms prime turns lineT lineU kinds upper lower numbers q base least table rows lists listSize tried other line makers_22 touches made kindForm kindTurns kindWays) := hD
                      obtain ⟨x4_23, e_x4_23, hF⟩ := nm_ex hF
                      refine lv_iinc (v := x4_23) (lv' := [(4, .int x4_23), (5, .long x5_17), (0, .ref h), (1, .int x1_1), (3, .int x3_13)]) hx hb dX7_settle_140 hl (k := 4) rfl (by rw [e_x4_23]; rfl) (by decide) rfl (fun ls hl => ?_)
                      refine lv_goto (tgt := 86) hx hb dX7_settle_143 (by decide) ?_
                      exact ih86 x4_23 makers_22 H locs ls hP hD hS (lv_sub hl [2, 3, 4, 0] rfl) hF
                exact hL86 fu (0 : Int32) makers_4 H locs ls hP hD hS (lv_sub hl [1, 2, 3, 0] rfl) hF
              clear e_k83
              have hL18 : ∀ n : Nat, ∀ (x3_5 : Int32) (x4_6 : Int32) (H : Heap) (locs : List Loc) (ls : Array Slot), va_P (dC, dI) vwCl (mW cI cJ h a forms prime turns lineT lineU kinds upper lower numbers q base least table rows lists listSize tried other line makers_4 touches made kindForm kindTurns kindWays) H → va_D A (mW cI cJ h a forms prime turns lineT lineU kinds upper lower numbers q base least table rows lists listSize tried other line makers_4 touches made kindForm kindTurns kindWays) → va_S A s.heap H locs → lv_has ls 8 [(0, .ref h), (1, .int x1_1), (3, .int x3_5), (4, .int x4_6)] → fX7_settle_L18 k83 x1_1 makers_4 n x3_5 x4_6 = some o_makers → W p l e rmX7_settle s m ([.ref h] : List Value).toArray below meth c H locs 0 0 Q (F0 m 18 ls []) := by
                intro n
                induction n with
                | zero => intro x3_5 x4_6 H locs ls hP hD hS hl hF; rw [fX7_settle_L18] at hF; cases hF
                | succ n ih18 =>
                  intro x3_5 x4_6 H locs ls hP hD hS hl hF
                  rw [fX7_settle_L18] at hF
                  refine lv_iload hx hb dX7_settle_18 (lv_at hl 3 rfl) ?_
                  refine lv_iconst (v := 4) hx hb dX7_settle_20 (by decide) ?_
                  refine lv_icmp_ge (tgt := 83) hx hb dX7_settle_21 (by decide) (fun c0 => ?_) (fun c0 => ?_)
                  · have hF := if_t hF c0
                    exact hk83 x3_5 H locs ls hP hD hS (lv_sub hl [0, 1, 2] rfl) hF
                  · have hF := if_f hF c0
                    refine lv_aload_n hx hb dX7_settle_24 rfl (lv_at hl 0 rfl) ?_
                    refine va_get (D := (dC, dI)) (ci := 5) (v := .ref (a 12)) (C := RX7) (T := TX7) (N := 25) hx hb hts hinX7 hown hK hP 0 rfl rfl 16 (by decide) hf_48 (fun _ h9 => h9) rfl dX7_settle_25 ?_
                    refine lv_iconst (v := 3) hx hb dX7_settle_28 (by decide) ?_
                    refine lv_iload hx hb dX7_settle_29 (lv_at hl 3 rfl) ?_
                    refine lv_imul hx hb dX7_settle_31 ?_
                    refine lv_iload_n hx hb dX7_settle_32 rfl (lv_at hl 1 rfl) ?_
                    refine lv_iadd hx hb dX7_settle_33 ?_
                    refine lv_topi (fun v_7 e_v_7 => ?_)
                    have hF := nm_at hF e_v_7
                    obtain ⟨hi, hF⟩ := ck_of hF
                    refine va_lald hx hb hK hP 12 1 rfl rfl hi dX7_settle_34 ?_
                    obtain ⟨r_8, hc, hF⟩ := bd1_of hF
                    refine rc_l (va_runS (As := [.long (makers_4 v_7.toNatClampNeg)]) (rest := []) ⟨hx, hb, hml, hown, hts⟩ (c_X7_size l (makers_4 v_7.toNatClampNeg) r_8 hc) (va_cwS 1 hts g_X7_settle_X7_size rfl rfl rfl (by decide +kernel) ⟨Nat.le_of_ble_eq_true rfl, Nat.le_of_ble_eq_true rfl⟩) ⟨tPc_blind, tPc_at⟩ rfl rfl hl.1 rfl (lv_room (Nat.le_of_ble_eq_true rfl)) dX7_settle_35 ⟨Nat.zero_le _, Nat.zero_le _⟩) ?_
                    refine lv_lstore (lv' := [(5, .long r_8), (0, .ref h), (1, .int x1_1), (3, .int x3_5), (4, .int x4_6)]) hx hb dX7_settle_38 hl (by decide) rfl (fun ls hl => ?_)
                    refine lv_lload hx hb dX7_settle_40 (lv_at hl 0 rfl) ?_
                    refine lv_lconst (v := 0) hx hb dX7_settle_42 (by decide) ?_
                    refine W.lcmp hx hb dX7_settle_43 ?_
                    obtain ⟨k76, e_k76, hF⟩ := nm_ex hF
                    have hk76 : ∀ (s_11 : Int32) (H : Heap) (locs : List Loc) (ls : Array Slot), va_P (dC, dI) vwCl (mW cI cJ h a forms prime turns lineT lineU kinds upper lower numbers q base least table rows lists listSize tried other line makers_4 touches made kindForm kindTurns kindWays) H → va_D A (mW cI cJ h a forms prime turns lineT lineU kinds upper lower numbers q base least table rows lists listSize tried other line makers_4 touches made kindForm kindTurns kindWays) → va_S A s.heap H locs → lv_has ls 8 [(0, .ref h), (1, .int x1_1), (4, .int x4_6)] → k76 s_11 = some o_makers → W p l e rmX7_settle s m ([.ref h] : List Value).toArray below meth c H locs 0 0 Q (F0 m 76 ls [.int s_11]) := by
                      intro s_11 H locs ls hP hD hS hl hF
                      have hF := ka1 e_k76 hF
                      refine lv_istore_n (lv' := [(3, .int s_11), (0, .ref h), (1, .int x1_1), (4, .int x4_6)]) hx hb dX7_settle_76 rfl hl (by decide) rfl (fun ls hl => ?_)
                      obtain ⟨x4_12, e_x4_12, hF⟩ := nm_ex hF
                      refine lv_iinc (v := x4_12) (lv' := [(4, .int x4_12), (3, .int s_11), (0, .ref h), (1, .int x1_1)]) hx hb dX7_settle_77 hl (k := 3) rfl (by rw [e_x4_12]; rfl) (by decide) rfl (fun ls hl => ?_)
                      refine lv_goto (tgt := 18) hx hb dX7_settle_80 (by decide) ?_
                      exact ih18 s_11 x4_12 H locs ls hP hD hS (lv_sub hl [2, 3, 1, 0] rfl) hF
                    clear e_k76
                    obtain ⟨k75, e_k75, hF⟩ := nm_ex hF
                    have hk75 : ∀  (H : Heap) (locs : List Loc) (ls : Array Slot), va_P (dC, dI) vwCl (mW cI cJ h a forms prime turns lineT lineU kinds upper lower numbers q base least table rows lists listSize tried other line makers_4 touches made kindForm kindTurns kindWays) H → va_D A (mW cI cJ h a forms prime turns lineT lineU kinds upper lower numbers q base least table rows lists listSize tried other line makers_4 touches made kindForm kindTurns kindWays) → va_S A s.heap H locs → lv_has ls 8 [(0, .ref h), (1, .int x1_1), (3, .int x3_5), (4, .int x4_6)] → k75 = some o_makers → W p l e rmX7_settle s m ([.ref h] : List Value).toArray below meth c H locs 0 0 Q (F0 m 75 ls []) := by
                      intro H locs ls hP hD hS hl hF
                      have hF := ka0 e_k75 hF
                      refine lv_iload_n hx hb dX7_settle_75 rfl (lv_at hl 2 rfl) ?_
                      exact hk76 x3_5 H locs ls hP hD hS (lv_sub hl [0, 1, 3] rfl) hF
                    clear e_k75
                    refine lv_if_le (tgt := 75) hx hb dX7_settle_44 (by decide) (fun c0 => ?_) (fun c0 => ?_)
                    · have c0 := (lg_cmp_le _ _).mp c0
                      have hF := if_t hF c0
                      exact hk75 H locs ls hP hD hS (lv_sub hl [1, 2, 3, 4] rfl) hF
                    · have c0 := (not_congr (lg_cmp_le _ _)).mp c0
                      have hF := if_f hF c0
                      refine lv_iload_n hx hb dX7_settle_47 rfl (lv_at hl 3 rfl) ?_
                      obtain ⟨k70, e_k70, hF⟩ := nm_ex hF
                      have hk70 : ∀  (H : Heap) (locs : List Loc) (ls : Array Slot), va_P (dC, dI) vwCl (mW cI cJ h a forms prime turns lineT lineU kinds upper lower numbers q base least table rows lists listSize tried other line makers_4 touches made kindForm kindTurns kindWays) H → va_D A (mW cI cJ h a forms prime turns lineT lineU kinds upper lower numbers q base least table rows lists listSize tried other line makers_4 touches made kindForm kindTurns kindWays) → va_S A s.heap H locs → lv_has ls 8 [(0, .ref h), (1, .int x1_1), (4, .int x4_6)] → k70 = some o_makers → W p l e rmX7_settle s m ([.ref h] : List Value).toArray below meth c H locs 0 0 Q (F0 m 70 ls []) := by
                        intro H locs ls hP hD hS hl hF
                        have hF := ka0 e_k70 hF
                        refine lv_iload hx hb dX7_settle_70 (lv_at hl 2 rfl) ?_
                        refine lv_goto (tgt := 76) hx hb dX7_settle_72 (by decide) ?_
                        exact hk76 x4_6 H locs ls hP hD hS (lv_sub hl [0, 1, 2] rfl) hF
                      clear e_k70
                      refine lv_if_lt (tgt := 70) hx hb dX7_settle_48 (by decide) (fun c0 => ?_) (fun c0 => ?_)
                      · have hF := if_t hF c0
                        exact hk70 H locs ls hP hD hS (lv_sub hl [1, 2, 4] rfl) hF
                      · have hF := if_f hF c0
                        refine lv_lload hx hb dX7_settle_51 (lv_at hl 0 rfl) ?_
                        refine lv_aload_n hx hb dX7_settle_53 rfl (lv_at hl 1 rfl) ?_
                        refine va_get (D := (dC, dI)) (ci := 5) (v := .ref (a 12)) (C := RX7) (T := TX7) (N := 25) hx hb hts hinX7 hown hK hP 0 rfl rfl 16 (by decide) hf_48 (fun _ h9 => h9) rfl dX7_settle_54 ?_
                        refine lv_iconst (v := 3) hx hb dX7_settle_57 (by decide) ?_
                        refine lv_iload_n hx hb dX7_settle_58 rfl (lv_at hl 3 rfl) ?_
                        refine lv_imul hx hb dX7_settle_59 ?_
                        refine lv_iload_n hx hb dX7_settle_60 rfl (lv_at hl 2 rfl) ?_
                        refine lv_iadd hx hb dX7_settle_61 ?_
                        refine lv_topi (fun v_9 e_v_9 => ?_)
                        have hF := nm_at hF e_v_9
                        obtain ⟨hi, hF⟩ := ck_of hF
                        refine va_lald hx hb hK hP 12 1 rfl rfl hi dX7_settle_62 ?_
                        obtain ⟨r_10, hc, hF⟩ := bd1_of hF
                        refine rc_l (va_runS (As := [.long (makers_4 v_9.toNatClampNeg)]) (rest := [.long r_8]) ⟨hx, hb, hml, hown, hts⟩ (c_X7_size l (makers_4 v_9.toNatClampNeg) r_10 hc) (va_cwS 1 hts g_X7_settle_X7_size rfl rfl rfl (by decide +kernel) ⟨Nat.le_of_ble_eq_true rfl, Nat.le_of_ble_eq_true rfl⟩) ⟨tPc_blind, tPc_at⟩ rfl rfl hl.1 rfl (lv_room (Nat.le_of_ble_eq_true rfl)) dX7_settle_63 ⟨Nat.zero_le _, Nat.zero_le _⟩) ?_
                        refine W.lcmp hx hb dX7_settle_66 ?_
                        refine lv_if_ge (tgt := 75) hx hb dX7_settle_67 (by decide) (fun c0 => ?_) (fun c0 => ?_)
                        · have c0 := (lg_cmp_ge _ _).mp c0
                          have hF := if_t hF c0
                          exact hk75 H locs ls hP hD hS (lv_sub hl [1, 2, 3, 4] rfl) hF
                        · have c0 := (not_congr (lg_cmp_ge _ _)).mp c0
                          have hF := if_f hF c0
                          exact hk70 H locs ls hP hD hS (lv_sub hl [1, 2, 4] rfl) hF
              exact hL18 fu (-1 : Int32) x1_1 H locs ls hP hD hS (lv_sub hl [2, 3, 1, 0] rfl) hF
        exact hL9 fu (1 : Int32) makers_2 H locs ls hP hD hS (lv_sub hl [1, 2, 0] rfl) hF
  exact hL2 fu (0 : Int32) makers H locs ls hP hD hS (lv_sub hl [1, 0] rfl) hF
def fX7_findNeighbour_L483 (k510 : (Nat → Int64) → Option ((Int32) × (Int32) × (Int32) × (Nat → Int64) × (Nat → Int64) × (Nat → Int64) × (Nat → Int64) × (Nat → Int64) × (Nat → Int64) × (Nat → Int32) × (Nat → Int64) × (Nat → Int64) × (Nat → Int64) × (Nat → Int64) × (Nat → Int64))) (made_72 : Nat → Int64) : Nat → (Int32) → (Nat → Int64) → Option ((Int32) × (Int32) × (Int32) × (Nat → Int64) × (Nat → Int64) × (Nat → Int64) × (Nat → Int64) × (Nat → Int64) × (Nat → Int64) × (Nat → Int32) × (Nat → Int64) × (Nat → Int64) × (Nat → Int64) × (Nat → Int64) × (Nat → Int64))
  | 0, _, _ => none
  | n + 1, x7_73, q_74 => if (6 : Int32) ≤ x7_73 then ((k510 q_74)) else (if okI x7_73 6 then if okI x7_73 6 then nm (vp_updL q_74 x7_73.toNatClampNeg (made_72 x7_73.toNatClampNeg)) (fun (q_75 : Nat → Int64) => nm (x7_73 + (1 : Int32)) (fun (x7_76 : Int32) => (fX7_findNeighbour_L483 k510 made_72 n x7_76 q_75))) else none else none)
def fX7_findNeighbour_L365 (k480 : (Nat → Int64) → Option ((Int32) × (Int32) × (Int32) × (Nat → Int64) × (Nat → Int64) × (Nat → Int64) × (Nat → Int64) × (Nat → Int64) × (Nat → Int64) × (Nat → Int32) × (Nat → Int64) × (Nat → Int64) × (Nat → Int64) × (Nat → Int64) × (Nat → Int64))) (q : Nat → Int64) (makers_47 : Nat → Int64) (x5_48 : Int64) : Nat → (Int32) → (Nat → Int64) → Option ((Int32) × (Int32) × (Int32) × (Nat → Int64) × (Nat → Int64) × (Nat → Int64) × (Nat → Int64) × (Nat → Int64) × (Nat → Int64) × (Nat → Int32) × (Nat → Int64) × (Nat → Int64) × (Nat → Int64) × (Nat → Int64) × (Nat → Int64))
  | 0, _, _ => none
  | n + 1, x7_58, made_59 => if (3 : Int32) ≤ x7_58 then ((k480 made_59)) else (nm (fun (s_60 : Int32) => nm (fun (s_61 : Int32) => nm ((3 : Int32) * s_60) (fun (v_62 : Int32) => if okI v_62 12 then nm (((3 : Int32) * s_60) + (1 : Int32)) (fun (v_63 : Int32) => if okI v_63 12 then nm (((3 : Int32) * s_60) + (2 : Int32)) (fun (v_64 : Int32) => if okI v_64 12 then nm ((3 : Int32) * s_61) (fun (v_65 : Int32) => if okI v_65 12 then nm (((3 : Int32) * s_61) + (1 : Int32)) (fun (v_66 : Int32) => if okI v_66 12 then nm (((3 : Int32) * s_61) + (2 : Int32)) (fun (v_67 : Int32) => if okI v_67 12 then bd1 (fX7_touchOf q (makers_47 v_62.toNatClampNeg) (makers_47 v_63.toNatClampNeg) (makers_47 v_64.toNatClampNeg) (makers_47 v_65.toNatClampNeg) (makers_47 v_66.toNatClampNeg) (makers_47 v_67.toNatClampNeg)) (fun (r_68 : Int64) => if ¬ x5_48 = 0 then nm ((3 : Int32) + x7_58) (fun (v_69 : Int32) => if okI v_69 6 then nm (vp_updL made_59 v_69.toNatClampNeg (r_68 / x5_48)) (fun (made_70 : Nat → Int64) => nm (x7_58 + (1 : Int32)) (fun (x7_71 : Int32) => (fX7_findNeighbour_L365 k480 q makers_47 x5_48 n x7_71 made_70))) else none) else none) else none) else none) else none) else none) else none) else none)) (fun (k394 : (Int32) → Option ((Int32) × (Int32) × (Int32) × (Nat → Int64) × (Nat → Int64) × (Nat → Int64) × (Nat → Int64) × (Nat → Int64) × (Nat → Int64) × (Nat → Int32) × (Nat → Int64) × (Nat → Int64) × (Nat → Int64) × (Nat → Int64) × (Nat → Int64))) => if x7_58 = (2 : Int32) then ((k394 (1 : Int32))) else ((k394 (2 : Int32))))) (fun (k381 : (Int32) → Option ((Int32) × (Int32) × (Int32) × (Nat → Int64) × (Nat → Int64) × (Nat → Int64) × (Nat → Int64) × (Nat → Int64) × (Nat → Int64) × (Nat → Int32) × (Nat → Int64) × (Nat → Int64) × (Nat → Int64) × (Nat → Int64) × (Nat → Int64))) => if x7_58 = 0 then ((k381 (1 : Int32))) else ((k381 (0 : Int32)))))
def fX7_findNeighbour_L305 (k362 : (Nat → Int64) → Option ((Int32) × (Int32) × (Int32) × (Nat → Int64) × (Nat → Int64) × (Nat → Int64) × (Nat → Int64) × (Nat → Int64) × (Nat → Int64) × (Nat → Int32) × (Nat → Int64) × (Nat → Int64) × (Nat → Int64) × (Nat → Int64) × (Nat → Int64))) (q : Nat → Int64) (makers_47 : Nat → Int64) (x5_48 : Int64) : Nat → (Int32) → (Nat → Int64) → Option ((Int32) × (Int32) × (Int32) × (Nat → Int64) × (Nat → Int64) × (Nat → Int64) × (Nat → Int64) × (Nat → Int64) × (Nat → Int64) × (Nat → Int32) × (Nat → Int64) × (Nat → Int64) × (Nat → Int64) × (Nat → Int64) × (Nat → Int64))
  | 0, _, _ => none
  | n + 1, x7_49, made_50 => if (3 : Int32) ≤ x7_49 then ((k362 made_50)) else (nm ((3 : Int32) * x7_49) (fun (v_51 : Int32) => if okI v_51 12 then nm (((3 : Int32) * x7_49) + (1 : Int32)) (fun (v_52 : Int32) => if okI v_52 12 then nm (((3 : Int32) * x7_49) + (2 : Int32)) (fun (v_53 : Int32) => if okI v_53 12 then bd1 (fX7_valueOf q (makers_47 v_51.toNatClampNeg) (makers_47 v_52.toNatClampNeg) (makers_47 v_53.toNatClampNeg)) (fun (r_54 : Int64) => if ¬ x5_48 = 0 then if okI x7_49 6 then nm (vp_updL made_50 x7_49.toNatClampNeg (r_54 / x5_48)) (fun (made_55 : Nat → Int64) => nm (x7_49 + (1 : Int32)) (fun (x7_56 : Int32) => (fX7_findNeighbour_L305 k362 q makers_47 x5_48 n x7_56 made_55))) else none else none) else none) else none) else none))
def fX7_findNeighbour_L257 (k285 : (Nat → Int64) → Option ((Int32) × (Int32) × (Int32) × (Nat → Int64) × (Nat → Int64) × (Nat → Int64) × (Nat → Int64) × (Nat → Int64) × (Nat → Int64) × (Nat → Int32) × (Nat → Int64) × (Nat → Int64) × (Nat → Int64) × (Nat → Int64) × (Nat → Int64))) (prime : Int32) (lineT_1 : Int32) (lineU_2 : Int32) (line_3 : Nat → Int64) : Nat → (Int32) → (Nat → Int64) → Option ((Int32) × (Int32) × (Int32) × (Nat → Int64) × (Nat → Int64) × (Nat → Int64) × (Nat → Int64) × (Nat → Int64) × (Nat → Int64) × (Nat → Int32) × (Nat → Int64) × (Nat → Int64) × (Nat → Int64) × (Nat → Int64) × (Nat → Int64))
  | 0, _, _ => none
  | n + 1, x5_40, makers_41 => if (3 : Int32) ≤ x5_40 then ((k285 makers_41)) else (bd1 (fX7_lined prime lineT_1 lineU_2 line_3 x5_40) (fun (r_42 : Int64) => nm ((9 : Int32) + x5_40) (fun (v_43 : Int32) => if okI v_43 12 then nm (vp_updL makers_41 v_43.toNatClampNeg r_42) (fun (makers_44 : Nat → Int64) => nm (x5_40 + (1 : Int32)) (fun (x5_45 : Int32) => (fX7_findNeighbour_L257 k285 prime lineT_1 lineU_2 line_3 n x5_45 makers_44))) else none)))
def fX7_findNeighbour_L153 (k248 : (Nat → Int64) → Option ((Int32) × (Int32) × (Int32) × (Nat → Int64) × (Nat → Int64) × (Nat → Int64) × (Nat → Int64) × (Nat → Int64) × (Nat → Int64) × (Nat → Int32) × (Nat → Int64) × (Nat → Int64) × (Nat → Int64) × (Nat → Int64) × (Nat → Int64))) (x5_27 : Int32) (prime : Int32) (x2_20 : Int32) (touches_21 : Nat → Int64) (x3_26 : Int64) : Nat → (Int32) → (Nat → Int64) → Option ((Int32) × (Int32) × (Int32) × (Nat → Int64) × (Nat → Int64) × (Nat → Int64) × (Nat → Int64) × (Nat → Int64) × (Nat → Int64) × (Nat → Int32) × (Nat → Int64) × (Nat → Int64) × (Nat → Int64) × (Nat → Int64) × (Nat → Int64))
  | 0, _, _ => none
  | n + 1, x6_29, makers_30 => if (3 : Int32) ≤ x6_29 then ((k248 makers_30)) else (nm (fun (s_33 : Int64) => nm (((3 : Int32) * x5_27) + x6_29) (fun (v_34 : Int32) => if okI v_34 12 then nm (vp_updL makers_30 v_34.toNatClampNeg (prime.toInt64 * s_33)) (fun (makers_35 : Nat → Int64) => nm (x6_29 + (1 : Int32)) (fun (x6_36 : Int32) => (fX7_findNeighbour_L153 k248 x5_27 prime x2_20 touches_21 x3_26 n x6_36 makers_35))) else none)) (fun (k220 : (Int64) → Option ((Int32) × (Int32) × (Int32) × (Nat → Int64) × (Nat → Int64) × (Nat → Int64) × (Nat → Int64) × (Nat → Int64) × (Nat → Int64) × (Nat → Int32) × (Nat → Int64) × (Nat → Int64) × (Nat → Int64) × (Nat → Int64) × (Nat → Int64))) => if x5_27 = x2_20 then (if x6_29 = x2_20 then ((k220 prime.toInt64)) else ((k220 (0 : Int64)))) else (if x6_29 = x5_27 then ((k220 (1 : Int64))) else (if x6_29 = x2_20 then (if okI x5_27 3 then nm ((touches_21 x5_27.toNatClampNeg) * x3_26) (fun (v_31 : Int64) => nm (prime.toInt64) (fun (v_32 : Int64) => if ¬ v_32 = 0 then (k220 (-(v_31 - v_31 / v_32 * v_32))) else none)) else none) else ((k220 (0 : Int64)))))))
def fX7_findNeighbour_L144 (k254 : (Nat → Int64) → Option ((Int32) × (Int32) × (Int32) × (Nat → Int64) × (Nat → Int64) × (Nat → Int64) × (Nat → Int64) × (Nat → Int64) × (Nat → Int64) × (Nat → Int32) × (Nat → Int64) × (Nat → Int64) × (Nat → Int64) × (Nat → Int64) × (Nat → Int64))) (prime : Int32) (x2_20 : Int32) (touches_21 : Nat → Int64) (x3_26 : Int64) (fu : Nat) : Nat → (Int32) → (Nat → Int64) → Option ((Int32) × (Int32) × (Int32) × (Nat → Int64) × (Nat → Int64) × (Nat → Int64) × (Nat → Int64) × (Nat → Int64) × (Nat → Int64) × (Nat → Int32) × (Nat → Int64) × (Nat → Int64) × (Nat → Int64) × (Nat → Int64) × (Nat → Int64))
  | 0, _, _ => none
  | n + 1, x5_27, makers_28 => if (3 : Int32) ≤ x5_27 then ((k254 makers_28)) else (nm (fun (makers_37 : Nat → Int64) => nm (x5_27 + (1 : Int32)) (fun (x5_38 : Int32) => (fX7_findNeighbour_L144 k254 prime x2_20 touches_21 x3_26 fu n x5_38 makers_37))) (fun (k248 : (Nat → Int64) → Option ((Int32) × (Int32) × (Int32) × (Nat → Int64) × (Nat → Int64) × (Nat → Int64) × (Nat → Int64) × (Nat → Int64) × (Nat → Int64) × (Nat → Int32) × (Nat → Int64) × (Nat → Int64) × (Nat → Int64) × (Nat → Int64) × (Nat → Int64))) => (fX7_findNeighbour_L153 k248 x5_27 prime x2_20 touches_21 x3_26 fu (0 : Int32) makers_28)))
def fX7_findNeighbour_L115 (x2_20 : Int32) (touches_21 : Nat → Int64) (prime : Int32) (k141 : (Int64) → Option ((Int32) × (Int32) × (Int32) × (Nat → Int64) × (Nat → Int64) × (Nat → Int64) × (Nat → Int64) × (Nat → Int64) × (Nat → Int64) × (Nat → Int32) × (Nat → Int64) × (Nat → Int64) × (Nat → Int64) × (Nat → Int64) × (Nat → Int64))) : Nat → (Int64) → Option ((Int32) × (Int32) × (Int32) × (Nat → Int64) × (Nat → Int64) × (Nat → Int64) × (Nat → Int64) × (Nat → Int64) × (Nat → Int64) × (Nat → Int32) × (Nat → Int64) × (Nat → Int64) × (Nat → Int64) × (Nat → Int64) × (Nat → Int64))
  | 0, _ => none
  | n + 1, x3_22 => if okI x2_20 3 then nm (x3_22 * (touches_21 x2_20.toNatClampNeg)) (fun (v_23 : Int64) => nm (prime.toInt64) (fun (v_24 : Int64) => if ¬ v_24 = 0 then if (v_23 - v_23 / v_24 * v_24) = (1 : Int64) then ((k141 x3_22)) else (nm (x3_22 + (1 : Int64)) (fun (x3_25 : Int64) => (fX7_findNeighbour_L115 x2_20 touches_21 prime k141 n x3_25))) else none)) else none
def fX7_findNeighbour_L9 (k113 : (Int32) → (Nat → Int64) → Option ((Int32) × (Int32) × (Int32) × (Nat → Int64) × (Nat → Int64) × (Nat → Int64) × (Nat → Int64) × (Nat → Int64) × (Nat → Int64) × (Nat → Int32) × (Nat → Int64) × (Nat → Int64) × (Nat → Int64) × (Nat → Int64) × (Nat → Int64))) (prime : Int32) (lineT_1 : Int32) (lineU_2 : Int32) (line_3 : Nat → Int64) (q : Nat → Int64) : Nat → (Int32) → (Int32) → (Nat → Int64) → Option ((Int32) × (Int32) × (Int32) × (Nat → Int64) × (Nat → Int64) × (Nat → Int64) × (Nat → Int64) × (Nat → Int64) × (Nat → Int64) × (Nat → Int32) × (Nat → Int64) × (Nat → Int64) × (Nat → Int64) × (Nat → Int64) × (Nat → Int64))
  | 0, _, _, _ => none
  | n + 1, x2_4, x3_5, touches_6 => if (3 : Int32) ≤ x3_5 then ((k113 x2_4 touches_6)) else (bd1 (fX7_lined prime lineT_1 lineU_2 line_3 (0 : Int32)) (fun (r_7 : Int64) => bd1 (fX7_lined prime lineT_1 lineU_2 line_3 (1 : Int32)) (fun (r_8 : Int64) => bd1 (fX7_lined prime lineT_1 lineU_2 line_3 (2 : Int32)) (fun (r_9 : Int64) => nm (fun (s_10 : Int64) => nm (fun (s_11 : Int64) => nm (fun (s_12 : Int64) => bd1 (fX7_touchOf q r_7 r_8 r_9 s_10 s_11 s_12) (fun (r_13 : Int64) => nm (prime.toInt64) (fun (v_14 : Int64) => if ¬ v_14 = 0 then nm ((r_13 - r_13 / v_14 * v_14) + prime.toInt64) (fun (v_15 : Int64) => nm (prime.toInt64) (fun (v_16 : Int64) => if ¬ v_16 = 0 then if okI x3_5 3 then nm (vp_updL touches_6 x3_5.toNatClampNeg (v_15 - v_15 / v_16 * v_16)) (fun (touches_17 : Nat → Int64) => if okI x3_5 3 then nm (fun (s_18 : Int32) => nm (x3_5 + (1 : Int32)) (fun (x3_19 : Int32) => (fX7_findNeighbour_L9 k113 prime lineT_1 lineU_2 line_3 q n s_18 x3_19 touches_17))) (fun (k106 : (Int32) → Option ((Int32) × (Int32) × (Int32) × (Nat → Int64) × (Nat → Int64) × (Nat → Int64) × (Nat → Int64) × (Nat → Int64) × (Nat → Int64) × (Nat → Int32) × (Nat → Int64) × (Nat → Int64) × (Nat → Int64) × (Nat → Int64) × (Nat → Int64))) => if (touches_17 x3_5.toNatClampNeg) = (0 : Int64) then ((k106 x2_4)) else ((k106 x3_5))) else none) else none else none)) else none))) (fun (k59 : (Int64) → Option ((Int32) × (Int32) × (Int32) × (Nat → Int64) × (Nat → Int64) × (Nat → Int64) × (Nat → Int64) × (Nat → Int64) × (Nat → Int64) × (Nat → Int32) × (Nat → Int64) × (Nat → Int64) × (Nat → Int64) × (Nat → Int64) × (Nat → Int64))) => if x3_5 = (2 : Int32) then ((k59 (1 : Int64))) else ((k59 (0 : Int64))))) (fun (k49 : (Int64) → Option ((Int32) × (Int32) × (Int32) × (Nat → Int64) × (Nat → Int64) × (Nat → Int64) × (Nat → Int64) × (Nat → Int64) × (Nat → Int64) × (Nat → Int32) × (Nat → Int64) × (Nat → Int64) × (Nat → Int64) × (Nat → Int64) × (Nat → Int64))) => if x3_5 = (1 : Int32) then ((k49 (1 : Int64))) else ((k49 (0 : Int64))))) (fun (k39 : (Int64) → Option ((Int32) × (Int32) × (Int32) × (Nat → Int64) × (Nat → Int64) × (Nat → Int64) × (Nat → Int64) × (Nat → Int64) × (Nat → Int64) × (Nat → Int32) × (Nat → Int64) × (Nat → Int64) × (Nat → Int64) × (Nat → Int64) × (Nat → Int64))) => if x3_5 = 0 then ((k39 (1 : Int64))) else ((k39 (0 : Int64))))))))
def fX7_findNeighbour (fu : Nat) (prime : Int32) (q : Nat → Int64) (base : Nat → Int64) (least : Nat → Int64) (table : Nat → Int64) (rows : Nat → Int64) (lists : Nat → Int64) (listSize : Nat → Int32) (tried : Nat → Int64) (line : Nat → Int64) (makers : Nat → Int64) (touches : Nat → Int64) (made : Nat → Int64) (p0 : Int32) : Option ((Int32) × (Int32) × (Int32) × (Nat → Int64) × (Nat → Int64) × (Nat → Int64) × (Nat → Int64) × (Nat → Int64) × (Nat → Int64) × (Nat → Int32) × (Nat → Int64) × (Nat → Int64) × (Nat → Int64) × (Nat → Int64) × (Nat → Int64)) :=
  bd3 (fX7_findLine fu prime q line p0) (fun (lineT_1 : Int32) (lineU_2 : Int32) (line_3 : Nat → Int64) => nm (fun (x2_20 : Int32) (touches_21 : Nat → Int64) => nm (fun (x3_26 : Int64) => nm (fun (makers_39 : Nat → Int64) => nm (fun (makers_46 : Nat → Int64) => bd1 (fX7_settle fu makers_46) (fun (makers_47 : Nat → Int64) => nm (prime.toInt64 * prime.toInt64) (fun (x5_48 : Int64) => nm (fun (made_57 : Nat → Int64) => nm (fun (made_72 : Nat → Int64) => nm (fun (q_77 : Nat → Int64) => bd9 (fX7_findLeast fu q_77 base least table rows lists listSize tried) (fun (turns_78 : Int32) (q_79 : Nat → Int64) (base_80 : Nat → Int64) (least_81 : Nat → Int64) (table_82 : Nat → Int64) (rows_83 : Nat → Int64) (lists_84 : Nat → Int64) (listSize_85 : Nat → Int32) (tried_86 : Nat → Int64) => some (turns_78, lineT_1, lineU_2, q_79, base_80, least_81, table_82, rows_83, lists_84, listSize_85, tried_86, line_3, makers_47, touches_21, made_72))) (fun (k510 : (Nat → Int64) → Option ((Int32) × (Int32) × (Int32) × (Nat → Int64) × (Nat → Int64) × (Nat → Int64) × (Nat → Int64) × (Nat → Int64) × (Nat → Int64) × (Nat → Int32) × (Nat → Int64) × (Nat → Int64) × (Nat → Int64) × (Nat → Int64) × (Nat → Int64))) => (fX7_findNeighbour_L483 k510 made_72 fu (0 : Int32) q))) (fun (k480 : (Nat → Int64) → Option ((Int32) × (Int32) × (Int32) × (Nat → Int64) × (Nat → Int64) × (Nat → Int64) × (Nat → Int64) × (Nat → Int64) × (Nat → Int64) × (Nat → Int32) × (Nat → Int64) × (Nat → Int64) × (Nat → Int64) × (Nat → Int64) × (Nat → Int64))) => (fX7_findNeighbour_L365 k480 q makers_47 x5_48 fu (0 : Int32) made_57))) (fun (k362 : (Nat → Int64) → Option ((Int32) × (Int32) × (Int32) × (Nat → Int64) × (Nat → Int64) × (Nat → Int64) × (Nat → Int64) × (Nat → Int64) × (Nat → Int64) × (Nat → Int32) × (Nat → Int64) × (Nat → Int64) × (Nat → Int64) × (Nat → Int64) × (Nat → Int64))) => (fX7_findNeighbour_L305 k362 q makers_47 x5_48 fu (0 : Int32) made))))) (fun (k285 : (Nat → Int64) → Option ((Int32) × (Int32) × (Int32) × (Nat → Int64) × (Nat → Int64) × (Nat → Int64) × (Nat → Int64) × (Nat → Int64) × (Nat → Int64) × (Nat → Int32) × (Nat → Int64) × (Nat → Int64) × (Nat → Int64) × (Nat → Int64) × (Nat → Int64))) => (fX7_findNeighbour_L257 k285 prime lineT_1 lineU_2 line_3 fu (0 : Int32) makers_39))) (fun (k254 : (Nat → Int64) → Option ((Int32) × (Int32) × (Int32) × (Nat → Int64) × (Nat → Int64) × (Nat → Int64) × (Nat → Int64) × (Nat → Int64) × (Nat → Int64) × (Nat → Int32) × (Nat → Int64) × (Nat → Int64) × (Nat → Int64) × (Nat → Int64) × (Nat → Int64))) => (fX7_findNeighbour_L144 k254 prime x2_20 touches_21 x3_26 fu fu (0 : Int32) makers))) (fun (k141 : (Int64) → Option ((Int32) × (Int32) × (Int32) × (Nat → Int64) × (Nat → Int64) × (Nat → Int64) × (Nat → Int64) × (Nat → Int64) × (Nat → Int64) × (Nat → Int32) × (Nat → Int64) × (Nat → Int64) × (Nat → Int64) × (Nat → Int64) × (Nat → Int64))) => (fX7_findNeighbour_L115 x2_20 touches_21 prime k141 fu (1 : Int64)))) (fun (k113 : (Int32) → (Nat → Int64) → Option ((Int32) × (Int32) × (Int32) × (Nat → Int64) × (Nat → Int64) × (Nat → Int64) × (Nat → Int64) × (Nat → Int64) × (Nat → Int64) × (Nat → Int32) × (Nat → Int64) × (Nat → Int64) × (Nat → Int64) × (Nat → Int64) × (Nat → Int64))) => (fX7_findNeighbour_L9 k113 prime lineT_1 lineU_2 line_3 q fu (-1 : Int32) (0 : Int32) touches)))
def lkX7_findNeighbour : List Cond := [.fieldLink RX7 51 "KinFormsModel" "touches" "[J", .fieldLink RX7 13 "KinFormsModel" "prime" "I", .fieldLink RX7 48 "KinFormsModel" "makers" "[J", .fieldLink RX7 54 "KinFormsModel" "made" "[J", .fieldLink RX7 17 "KinFormsModel" "q" "[J"]
def vX7_findNeighbour : List Cond := .code yX7_findNeighbour cX7_findNeighbour 10 none :: (lkX7_findNeighbour ++ (wsX70 ++ (wsV RX7 206 RX7 yX7_findLine vX7_findLine ++ (wsV RX7 199 RX7 yX7_lined vX7_lined ++ (wsV RX7 106 RX7 yX7_touchOf vX7_touchOf ++ (wsV RX7 209 RX7 yX7_settle vX7_settle ++ (wsV RX7 66 RX7 yX7_valueOf vX7_valueOf ++ (wsV RX7 142 RX7 yX7_findLeast vX7_findLeast ++ ([])))))))))
theorem q_X7_findNeighbour : ∀ w ∈ vX7_findNeighbour, goodWord w = true := gd_cons rfl (gd_app (by decide +kernel) (gd_app q_wsX70 (gd_app (gd_V q_X7_findLine) (gd_app (gd_V q_X7_lined) (gd_app (gd_V q_X7_touchOf) (gd_app (gd_V q_X7_settle) (gd_app (gd_V q_X7_valueOf) (gd_app (gd_V q_X7_findLeast) gd_nil))))))))
theorem g_X7_findNeighbour_X7_findLine : GoodIn vX7_findNeighbour (wsV RX7 206 RX7 yX7_findLine vX7_findLine) := gi_of (fun w h => List.mem_cons_of_mem _ (List.mem_append_right _ (List.mem_append_right _ (List.mem_append_left _ h)))) (gd_V q_X7_findLine)
theorem g_X7_findNeighbour_X7_lined : GoodIn vX7_findNeighbour (wsV RX7 199 RX7 yX7_lined vX7_lined) := gi_of (fun w h => List.mem_cons_of_mem _ (List.mem_append_right _ (List.mem_append_right _ (List.mem_append_right _ (List.mem_append_left _ h))))) (gd_V q_X7_lined)
theorem g_X7_findNeighbour_X7_touchOf : GoodIn vX7_findNeighbour (wsV RX7 106 RX7 yX7_touchOf vX7_touchOf) := gi_of (fun w h => List.mem_cons_of_mem _ (List.mem_append_right _ (List.mem_append_right _ (List.mem_append_right _ (List.mem_append_right _ (List.mem_append_left _ h)))))) (gd_V q_X7_touchOf)
theorem g_X7_findNeighbour_X7_settle : GoodIn vX7_findNeighbour (wsV RX7 209 RX7 yX7_settle vX7_settle) := gi_of (fun w h => List.mem_cons_of_mem _ (List.mem_append_right _ (List.mem_append_right _ (List.mem_append_right _ (List.mem_append_right _ (List.mem_append_right _ (List.mem_append_left _ h))))))) (gd_V q_X7_settle)
theorem g_X7_findNeighbour_X7_valueOf : GoodIn vX7_findNeighbour (wsV RX7 66 RX7 yX7_valueOf vX7_valueOf) := gi_of (fun w h => List.mem_cons_of_mem _ (List.mem_append_right _ (List.mem_append_right _ (List.mem_append_right _ (List.mem_append_right _ (List.mem_append_right _ (List.mem_append_right _ (List.mem_append_left _ h)))))))) (gd_V q_X7_valueOf)
theorem g_X7_findNeighbour_X7_findLeast : GoodIn vX7_findNeighbour (wsV RX7 142 RX7 yX7_findLeast vX7_findLeast) := gi_of (fun w h => List.mem_cons_of_mem _ (List.mem_append_right _ (List.mem_append_right _ (List.mem_append_right _ (List.mem_append_right _ (List.mem_append_right _ (List.mem_append_right _ (List.mem_append_right _ (List.mem_append_left _ h))))))))) (gd_V q_X7_findLeast)
abbrev rmX7_findNeighbour : Room := { frames := 5, cells := 0, slots := 0, locals := 139 }
set_option maxHeartbeats 4000000 in
set_option maxRecDepth 100000 in
theorem c_X7_findNeighbour (l : Launch) (dC : Nat → ClassId) (dI : Nat → Nat → Nat) (cI : ClassId) (cJ : ClassId) (h : Nat) (a : Nat → Nat) (fu : Nat) (sz : Nat) (forms : Int32) (prime : Int32) (turns : Int32) (lineT : Int32) (lineU : Int32) (kinds : Int32) (upper : Int64) (lower : Int64) (numbers : Nat → Int32) (q : Nat → Int64) (base : Nat → Int64) (least : Nat → Int64) (table : Nat → Int64) (rows : Nat → Int64) (lists : Nat → Int64) (listSize : Nat → Int32) (tried : Nat → Int64) (other : Nat → Int64) (line : Nat → Int64) (makers : Nat → Int64) (touches : Nat → Int64) (made : Nat → Int64) (kindForm : Nat → Int64) (kindTurns : Nat → Int32) (kindWays : Nat → Int32) (p0 : Int32) (o_turns : Int32) (o_lineT : Int32) (o_lineU : Int32) (o_q : Nat → Int64) (o_base : Nat → Int64) (o_least : Nat → Int64) (o_table : Nat → Int64) (o_rows : Nat → Int64) (o_lists : Nat → Int64) (o_listSize : Nat → Int32) (o_tried : Nat → Int64) (o_line : Nat → Int64) (o_makers : Nat → Int64) (o_touches : Nat → Int64) (o_made : Nat → Int64) (hF : fX7_findNeighbour fu prime q base least table rows lists listSize tried line makers touches made p0 = some (o_turns, o_lineT, o_lineU, o_q, o_base, o_least, o_table, o_rows, o_lists, o_listSize, o_tried, o_line, o_makers, o_touches, o_made)) : Met l yX7_findNeighbour vX7_findNeighbour rmX7_findNeighbour (va_Pc [.ref h, .int p0] (mPc (dC, dI) vwCl (mW cI cJ h a forms prime turns lineT lineU kinds upper lower numbers q base least table rows lists listSize tried other line makers touches made kindForm kindTurns kindWays) [(cI, .int), (cJ, .long)] sz)) (va_Qv (fun (_ : Unit) => True) (mPo (dC, dI) vwCl (mW cI cJ h a forms prime o_turns o_lineT o_lineU kinds upper lower numbers o_q o_base o_least o_table o_rows o_lists o_listSize o_tried other o_line o_makers o_touches o_made kindForm kindTurns kindWays) [(cI, .int), (cJ, .long)] (va_A (mW cI cJ h a forms prime turns lineT lineU kinds upper lower numbers q base least table rows lists listSize tried other line makers touches made kindForm kindTurns kindWays) sz)) (va_A (mW cI cJ h a forms prime turns lineT lineU kinds upper lower numbers q base least table rows lists listSize tried other line makers touches made kindForm kindTurns kindWays) sz)) 0 0 (va_A (mW cI cJ h a forms prime turns lineT lineU kinds upper lower numbers q base least table rows lists listSize tried other line makers touches made kindForm kindTurns kindWays) sz) := by
  refine Met.ofW (cc := cX7_findNeighbour) (maxL := 10) (ret := none) (by decide) rfl ?_
  intro p e s m args below meth c s₁ B hml hv
  obtain ⟨rfl, hsz, hP, hK, hD0⟩ := hv
  have hx := B.exec
  have hb := B.bytes
  have hr := B.returns
  have hts := atoms_spec (ws := vX7_findNeighbour) B.pre
  have hlk : ∀ w ∈ lkX7_findNeighbour, w.before _ s = true := fun w h => hts w (List.mem_cons_of_mem _ (List.mem_append_left _ h))
  have hown : s.vm.findClass RX7 = some m.cls := findClass_of_methodNamed B.named
  have hlocks := B.notSynchronized
  subst hsz
  have hD := hD0.self (sz := s.heap.size)
  generalize hAe : va_A (mW cI cJ h a forms prime turns lineT lineU kinds upper lower numbers q base least table rows lists listSize tried other line makers touches made kindForm kindTurns kindWays) s.heap.size = A at hD ⊢
  have hA : ∀ q : Nat, s.heap.size ≤ q → A q := fun q h => by rw [← hAe]; exact Or.inr h
  have hS : va_S A s.heap s.heap [] := va_S.rf
  have hinX7 : ∀ w ∈ wsX70, w ∈ vX7_findNeighbour := fun w h => List.mem_cons_of_mem _ (List.mem_append_right _ (List.mem_append_left _ h))
  have hf_51 := hlk (.fieldLink RX7 51 "KinFormsModel" "touches" "[J") (by decide +kernel)
  have hf_13 := hlk (.fieldLink RX7 13 "KinFormsModel" "prime" "I") (by decide +kernel)
  have hf_48 := hlk (.fieldLink RX7 48 "KinFormsModel" "makers" "[J") (by decide +kernel)
  have hf_54 := hlk (.fieldLink RX7 54 "KinFormsModel" "made" "[J") (by decide +kernel)
  have hf_17 := hlk (.fieldLink RX7 17 "KinFormsModel" "q" "[J") (by decide +kernel)
  have hl := lv_entry ([.ref h, .int p0] : List Value) (n := 10) (Nat.le_of_ble_eq_true rfl)
  rw [lg_entry_eq]
  generalize (lg_sl ([.ref h, .int p0] : List Value) ++ List.replicate (10 - (lg_sl ([.ref h, .int p0] : List Value)).length) Slot.unset).toArray = ls at hl ⊢
  have hl : lv_has ls 10 [(0, .ref h), (1, .int p0)] := hl
  unfold fX7_findNeighbour at hF
  refine W_Q (fun Q hQ => ?_)
  have hP : va_P (dC, dI) vwCl (mW cI cJ h a forms prime turns lineT lineU kinds upper lower numbers q base least table rows lists listSize tried other line makers touches made kindForm kindTurns kindWays) s.heap := hP
  refine W_HL (fun H locs eH eL => ?_)
  rw [← eH] at hP
  have hS : va_S A s.heap H locs := by rw [eH, eL]; exact hS
  refine lv_aload_n hx hb dX7_findNeighbour_0 rfl (lv_at hl 0 rfl) ?_
  refine lv_iload_n hx hb dX7_findNeighbour_1 rfl (lv_at hl 1 rfl) ?_
  obtain ⟨lineT_1, lineU_2, line_3, hc, hF⟩ := bd3_of hF
  refine mc_v (va_runV (As := [.int p0]) (rest := []) ⟨hx, hb, hml, hown, hts⟩ (c_X7_findLine l dC dI cI cJ h a fu H.size forms prime turns lineT lineU kinds upper lower numbers q base least table rows lists listSize tried other line makers touches made kindForm kindTurns kindWays p0 lineT_1 lineU_2 line_3 hc) (cwV 1 hts g_X7_findNeighbour_X7_findLine rfl rfl rfl (by decide +kernel) ⟨Nat.le_of_ble_eq_true rfl, Nat.le_of_ble_eq_true rfl⟩) ⟨mPc_blind, va_recv hK hP (ci := 5) (q0 := 0) rfl rfl, mPc_at hK hP hD⟩ rfl rfl hl.1 rfl (lv_room (Nat.le_of_ble_eq_true rfl)) dX7_findNeighbour_2 ⟨Nat.zero_le _, Nat.zero_le _⟩) hS (fr_all hD hS hA) (fun H locs hP hD hS => ?_)
  refine lv_iconst (v := (-1)) hx hb dX7_findNeighbour_5 (by decide) ?_
  refine lv_istore_n (lv' := [(2, .int (-1 : Int32)), (0, .ref h), (1, .int p0)]) hx hb dX7_findNeighbour_6 rfl hl (by decide) rfl (fun ls hl => ?_)
  refine lv_iconst (v := 0) hx hb dX7_findNeighbour_7 (by decide) ?_
  refine lv_istore_n (lv' := [(3, .int (0 : Int32)), (2, .int (-1 : Int32)), (0, .ref h), (1, .int p0)]) hx hb dX7_findNeighbour_8 rfl hl (by decide) rfl (fun ls hl => ?_)
  obtain ⟨k113, e_k113, hF⟩ := nm_ex hF
  have hk113 : ∀ (x2_20 : Int32) (touches_21 : Nat → Int64) (H : Heap) (locs : List Loc) (ls : Array Slot), va_P (dC, dI) vwCl (mW cI cJ h a forms prime turns lineT_1 lineU_2 kinds upper lower numbers q base least table rows lists listSize tried other line_3 makers touches_21 made kindForm kindTurns kindWays) H → va_D A (mW cI cJ h a forms prime turns lineT_1 lineU_2 kinds upper lower numbers q base least table rows lists listSize tried other line_3 makers touches_21 made kindForm kindTurns kindWays) → va_S A s.heap H locs → lv_has ls 10 [(0, .ref h), (2, .int x2_20)] → k113 x2_20 touches_21 = some (o_turns, o_lineT, o_lineU, o_q, o_base, o_least, o_table, o_rows, o_lists, o_listSize, o_tried, o_line, o_makers, o_touches, o_made) → W p l e rmX7_findNeighbour s m ([.ref h, .int p0] : List Value).toArray below meth c H locs 0 0 Q (F0 m 113 ls []) := by
    intro x2_20 touches_21 H locs ls hP hD hS hl hF
    have hF := ka2 e_k113 hF
    refine lv_lconst (v := 1) hx hb dX7_findNeighbour_113 (by decide) ?_
    refine lv_lstore_n (lv' := [(3, .long (1 : Int64)), (0, .ref h), (2, .int x2_20)]) hx hb dX7_findNeighbour_114 rfl hl (by decide) rfl (fun ls hl => ?_)
    obtain ⟨k141, e_k141, hF⟩ := nm_ex hF
    have hk141 : ∀ (x3_26 : Int64) (H : Heap) (locs : List Loc) (ls : Array Slot), va_P (dC, dI) vwCl (mW cI cJ h a forms prime turns lineT_1 lineU_2 kinds upper lower numbers q base least table rows lists listSize tried other line_3 makers touches_21 made kindForm kindTurns kindWays) H → va_D A (mW cI cJ h a forms prime turns lineT_1 lineU_2 kinds upper lower numbers q base least table rows lists listSize tried other line_3 makers touches_21 made kindForm kindTurns kindWays) → va_S A s.heap H locs → lv_has ls 10 [(0, .ref h), (2, .int x2_20), (3, .long x3_26)] → k141 x3_26 = some (o_turns, o_lineT, o_lineU, o_q, o_base, o_least, o_table, o_rows, o_lists, o_listSize, o_tried, o_line, o_makers, o_touches, o_made) → W p l e rmX7_findNeighbour s m ([.ref h, .int p0] : List Value).toArray below meth c H locs 0 0 Q (F0 m 141 ls []) := by
      intro x3_26 H locs ls hP hD hS hl hF
      have hF := ka1 e_k141 hF
      refine lv_iconst (v := 0) hx hb dX7_findNeighbour_141 (by decide) ?_
      refine lv_istore (lv' := [(5, .int (0 : Int32)), (0, .ref h), (2, .int x2_20), (3, .long x3_26)]) hx hb dX7_findNeighbour_142 hl (by decide) rfl (fun ls hl => ?_)
      obtain ⟨k254, e_k254, hF⟩ := nm_ex hF
      have hk254 : ∀ (makers_39 : Nat → Int64) (H : Heap) (locs : List Loc) (ls : Array Slot), va_P (dC, dI) vwCl (mW cI cJ h a forms prime turns lineT_1 lineU_2 kinds upper lower numbers q base least table rows lists listSize tried other line_3 makers_39 touches_21 made kindForm kindTurns kindWays) H → va_D A (mW cI cJ h a forms prime turns lineT_1 lineU_2 kinds upper lower numbers q base least table rows lists listSize tried other line_3 makers_39 touches_21 made kindForm kindTurns kindWays) → va_S A s.heap H locs → lv_has ls 10 [(0, .ref h)] → k254 makers_39 = some (o_turns, o_lineT, o_lineU, o_q, o_base, o_least, o_table, o_rows, o_lists, o_listSize, o_tried, o_line, o_makers, o_touches, o_made) → W p l e rmX7_findNeighbour s m ([.ref h, .int p0] : List Value).toArray below meth c H locs 0 0 Q (F0 m 254 ls []) := by
        intro makers_39 H locs ls hP hD hS hl hF
        have hF := ka1 e_k254 hF
        refine lv_iconst (v := 0) hx hb dX7_findNeighbour_254 (by decide) ?_
        refine lv_istore (lv' := [(5, .int (0 : Int32)), (0, .ref h)]) hx hb dX7_findNeighbour_255 hl (by decide) rfl (fun ls hl => ?_)
        obtain ⟨k285, e_k285, hF⟩ := nm_ex hF
        have hk285 : ∀ (makers_46 : Nat → Int64) (H : Heap) (locs : List Loc) (ls : Array Slot), va_P (dC, dI) vwCl (mW cI cJ h a forms prime turns lineT_1 lineU_2 kinds upper lower numbers q base least table rows lists listSize tried other line_3 makers_46 touches_21 made kindForm kindTurns kindWays) H → va_D A (mW cI cJ h a forms prime turns lineT_1 lineU_2 kinds upper lower numbers q base least table rows lists listSize tried other line_3 makers_46 touches_21 made kindForm kindTurns kindWays) → va_S A s.heap H locs → lv_has ls 10 [(0, .ref h)] → k285 makers_46 = some (o_turns, o_lineT, o_lineU, o_q, o_base, o_least, o_table, o_rows, o_lists, o_listSize, o_tried, o_line, o_makers, o_touches, o_made) → W p l e rmX7_findNeighbour s m ([.ref h, .int p0] : List Value).toArray below meth c H locs 0 0 Q (F0 m 285 ls []) := by
          intro makers_46 H locs ls hP hD hS hl hF
          have hF := ka1 e_k285 hF
          refine lv_aload_n hx hb dX7_findNeighbour_285 rfl (lv_at hl 0 rfl) ?_
          obtain ⟨makers_47, hc, hF⟩ := bd1_of hF
          refine mc_v (va_runV (As := []) (rest := []) ⟨hx, hb, hml, hown, hts⟩ (c_X7_settle l dC dI cI cJ h a fu H.size forms prime turns lineT_1 lineU_2 kinds upper lower numbers q base least table rows lists listSize tried other line_3 makers_46 touches_21 made kindForm kindTurns kindWays  makers_47 hc) (cwV 0 hts g_X7_findNeighbour_X7_settle rfl rfl rfl (by decide +kernel) ⟨Nat.le_of_ble_eq_true rfl, Nat.le_of_ble_eq_true rfl⟩) ⟨mPc_blind, va_recv hK hP (ci := 5) (q0 := 0) rfl rfl, mPc_at hK hP hD⟩ rfl rfl hl.1 rfl (lv_room (Nat.le_of_ble_eq_true rfl)) dX7_findNeighbour_286 ⟨Nat.zero_le _, Nat.zero_le _⟩) hS (fr_all hD hS hA) (fun H locs hP hD hS => ?_)
          refine lv_aload_n hx hb dX7_findNeighbour_289 rfl (lv_at hl 0 rfl) ?_
          refine va_get (D := (dC, dI)) (ci := 5) (v := .int prime) (C := RX7) (T := TX7) (N := 25) hx hb hts hinX7 hown hK hP 0 rfl rfl 2 (by decide) hf_13 (fun _ h9 => h9) rfl dX7_findNeighbour_290 ?_
          refine lv_i2l (v := prime.toInt64) hx hb dX7_findNeighbour_293 rfl ?_
          refine lv_aload_n hx hb dX7_findNeighbour_294 rfl (lv_at hl 0 rfl) ?_
          refine va_get (D := (dC, dI)) (ci := 5) (v := .int prime) (C := RX7) (T := TX7) (N := 25) hx hb hts hinX7 hown hK hP 0 rfl rfl 2 (by decide) hf_13 (fun _ h9 => h9) rfl dX7_findNeighbour_295 ?_
          refine lv_i2l (v := prime.toInt64) hx hb dX7_findNeighbour_298 rfl ?_
          refine lv_lmul hx hb dX7_findNeighbour_299 ?_
          refine lv_topl (fun x5_48 e_x5_48 => ?_)
          have hF := nm_at hF e_x5_48
          refine lv_lstore (lv' := [(5, .long x5_48), (0, .ref h)]) hx hb dX7_findNeighbour_300 hl (by decide) rfl (fun ls hl => ?_)
          refine lv_iconst (v := 0) hx hb dX7_findNeighbour_302 (by decide) ?_
          refine lv_istore (lv' := [(7, .int (0 : Int32)), (5, .long x5_48), (0, .ref h)]) hx hb dX7_findNeighbour_303 hl (by decide) rfl (fun ls hl => ?_)
          obtain ⟨k362, e_k362, hF⟩ := nm_ex hF
          have hk362 : ∀ (made_57 : Nat → Int64) (H : Heap) (locs : List Loc) (ls : Array Slot), va_P (dC, dI) vwCl (mW cI cJ h a forms prime turns lineT_1 lineU_2 kinds upper lower numbers q base least table rows lists listSize tried other line_3 makers_47 touches_21 made_57 kindForm kindTurns kindWays) H → va_D A (mW cI cJ h a forms prime turns lineT_1 lineU_2 kinds upper lower numbers q base least table rows lists listSize tried other line_3 makers_47 touches_21 made_57 kindForm kindTurns kindWays) → va_S A s.heap H locs → lv_has ls 10 [(0, .ref h), (5, .long x5_48)] → k362 made_57 = some (o_turns, o_lineT, o_lineU, o_q, o_base, o_least, o_table, o_rows, o_lists, o_listSize, o_tried, o_line, o_makers, o_touches, o_made) → W p l e rmX7_findNeighbour s m ([.ref h, .int p0] : List Value).toArray below meth c H locs 0 0 Q (F0 m 362 ls []) := by
            intro made_57 H locs ls hP hD hS hl hF
            have hF := ka1 e_k362 hF
            refine lv_iconst (v := 0) hx hb dX7_findNeighbour_362 (by decide) ?_
            refine lv_istore (lv' := [(7, .int (0 : Int32)), (0, .ref h), (5, .long x5_48)]) hx hb dX7_findNeighbour_363 hl (by decide) rfl (fun ls hl => ?_)
            obtain ⟨k480, e_k480, hF⟩ := nm_ex hF
            have hk480 : ∀ (made_72 : Nat → Int64) (H : Heap) (locs : List Loc) (ls : Array Slot), va_P (dC, dI) vwCl (mW cI cJ h a forms prime turns lineT_1 lineU_2 kinds upper lower numbers q base least table rows lists listSize tried other line_3 makers_47 touches_21 made_72 kindForm kindTurns kindWays) H → va_D A (mW cI cJ h a forms prime turns lineT_1 lineU_2 kinds upper lower numbers q base least table rows lists listSize tried other line_3 makers_47 touches_21 made_72 kindForm kindTurns kindWays) → va_S A s.heap H locs → lv_has ls 10 [(0, .ref h)] → k480 made_72 = some (o_turns, o_lineT, o_lineU, o_q, o_base, o_least, o_table, o_rows, o_lists, o_listSize, o_tried, o_line, o_makers, o_touches, o_made) → W p l e rmX7_findNeighbour s m ([.ref h, .int p0] : List Value).toArray below meth c H locs 0 0 Q (F0 m 480 ls []) := by
              intro made_72 H locs ls hP hD hS hl hF
              have hF := ka1 e_k480 hF
              refine lv_iconst (v := 0) hx hb dX7_findNeighbour_480 (by decide) ?_
              refine lv_istore (lv' := [(7, .int (0 : Int32)), (0, .ref h)]) hx hb dX7_findNeighbour_481 hl (by decide) rfl (fun ls hl => ?_)
              obtain ⟨k510, e_k510, hF⟩ := nm_ex hF
              have hk510 : ∀ (q_77 : Nat → Int64) (H : Heap) (locs : List Loc) (ls : Array Slot), va_P (dC, dI) vwCl (mW cI cJ h a forms prime turns lineT_1 lineU_2 kinds upper lower numbers q_77 base least table rows lists listSize tried other line_3 makers_47 touches_21 made_72 kindForm kindTurns kindWays) H → va_D A (mW cI cJ h a forms prime turns lineT_1 lineU_2 kinds upper lower numbers q_77 base least table rows lists listSize tried other line_3 makers_47 touches_21 made_72 kindForm kindTurns kindWays) → va_S A s.heap H locs → lv_has ls 10 [(0, .ref h)] → k510 q_77 = some (o_turns, o_lineT, o_lineU, o_q, o_base, o_least, o_table, o_rows, o_lists, o_listSize, o_tried, o_line, o_makers, o_touches, o_made) → W p l e rmX7_findNeighbour s m ([.ref h, .int p0] : List Value).toArray below meth c H locs 0 0 Q (F0 m 510 ls []) := by
                intro q_77 H locs ls hP hD hS hl hF
                have hF := ka1 e_k510 hF
                refine lv_aload_n hx hb dX7_findNeighbour_510 rfl (lv_at hl 0 rfl) ?_
                obtain ⟨turns_78, q_79, base_80, least_81, table_82, rows_83, lists_84, listSize_85, tried_86, hc, hF⟩ := bd9_of hF
                refine mc_v (va_runV (As := []) (rest := []) ⟨hx, hb, hml, hown, hts⟩ (c_X7_findLeast l dC dI cI cJ h a fu H.size forms prime turns lineT_1 lineU_2 kinds upper lower numbers q_77 base least table rows lists listSize tried other line_3 makers_47 touches_21 made_72 kindForm kindTurns kindWays  turns_78 q_79 base_80 least_81 table_82 rows_83 lists_84 listSize_85 tried_86 hc) (cwV 0 hts g_X7_findNeighbour_X7_findLeast rfl rfl rfl (by decide +kernel) ⟨Nat.le_of_ble_eq_true rfl, Nat.le_of_ble_eq_true rfl⟩) ⟨mPc_blind, va_recv hK hP (ci := 5) (q0 := 0) rfl rfl, mPc_at hK hP hD⟩ rfl rfl hl.1 rfl (lv_room (Nat.le_of_ble_eq_true rfl)) dX7_findNeighbour_511 ⟨Nat.zero_le _, Nat.zero_le _⟩) hS (fr_all hD hS hA) (fun H locs hP hD hS => ?_)
                obtain ⟨q0, q1, q2, q3, q4, q5, q6, q7, q8, q9, q10, q11, q12, q13, q14⟩ := sm15 hF
                have hP : va_P (dC, dI) vwCl (mW cI cJ h a forms prime o_turns o_lineT o_lineU kinds upper lower numbers o_q o_base o_least o_table o_rows o_lists o_listSize o_tried other o_line o_makers o_touches o_made kindForm kindTurns kindWays) H := by rw [← q0, ← q1, ← q2, ← q3, ← q4, ← q5, ← q6, ← q7, ← q8, ← q9, ← q10, ← q11, ← q12, ← q13, ← q14]; exact hP
                have hD : va_D A (mW cI cJ h a forms prime o_turns o_lineT o_lineU kinds upper lower numbers o_q o_base o_least o_table o_rows o_lists o_listSize o_tried other o_line o_makers o_touches o_made kindForm kindTurns kindWays) := by rw [← q0, ← q1, ← q2, ← q3, ← q4, ← q5, ← q6, ← q7, ← q8, ← q9, ← q10, ← q11, ← q12, ← q13, ← q14]; exact hD
                refine W_Qe hQ ?_
                exact W.vret hx hb hr (fun t ht hW => ⟨⟨(), rfl, trivial, by rw [ht]; exact hP, va_K.moved hW.alike hK, hD⟩, hS.F ht⟩) hS.2.2 dX7_findNeighbour_514
              clear e_k510
              have hL483 : ∀ n : Nat, ∀ (x7_73 : Int32) (q_74 : Nat → Int64) (H : Heap) (locs : List Loc) (ls : Array Slot), va_P (dC, dI) vwCl (mW cI cJ h a forms prime turns lineT_1 lineU_2 kinds upper lower numbers q_74 base least table rows lists listSize tried other line_3 makers_47 touches_21 made_72 kindForm kindTurns kindWays) H → va_D A (mW cI cJ h a forms prime turns lineT_1 lineU_2 kinds upper lower numbers q_74 base least table rows lists listSize tried other line_3 makers_47 touches_21 made_72 kindForm kindTurns kindWays) → va_S A s.heap H locs → lv_has ls 10 [(0, .ref h), (7, .int x7_73)] → fX7_findNeighbour_L483 k510 made_72 n x7_73 q_74 = some (o_turns, o_lineT, o_lineU, o_q, o_base, o_least, o_table, o_rows, o_lists, o_listSize, o_tried, o_line, o_makers, o_touches, o_made) → W p l e rmX7_findNeighbour s m ([.ref h, .int p0] : List Value).toArray below meth c H locs 0 0 Q (F0 m 483 ls []) := by
                intro n
                induction n with
                | zero => intro x7_73 q_74 H locs ls hP hD hS hl hF; rw [fX7_findNeighbour_L483] at hF; cases hF
                | succ n ih483 =>
                  intro x7_73 q_74 H locs ls hP hD hS hl hF
                  rw [fX7_findNeighbour_L483] at hF
                  refine lv_iload hx hb dX7_findNeighbour_483 (lv_at hl 1 rfl) ?_
                  refine lv_bipush (v := (6)) hx hb dX7_findNeighbour_485 (by decide) ?_
                  refine lv_icmp_ge (tgt := 510) hx hb dX7_findNeighbour_487 (by decide) (fun c0 => ?_) (fun c0 => ?_)
                  · have hF := if_t hF c0
                    exact hk510 q_74 H locs ls hP hD hS (lv_sub hl [0] rfl) hF
                  · have hF := if_f hF c0
                    refine lv_aload_n hx hb dX7_findNeighbour_490 rfl (lv_at hl 0 rfl) ?_
                    refine va_get (D := (dC, dI)) (ci := 5) (v := .ref (a 2)) (C := RX7) (T := TX7) (N := 25) hx hb hts hinX7 hown hK hP 0 rfl rfl 3 (by decide) hf_17 (fun _ h9 => h9) rfl dX7_findNeighbour_491 ?_
                    refine lv_iload hx hb dX7_findNeighbour_494 (lv_at hl 1 rfl) ?_
                    refine lv_aload_n hx hb dX7_findNeighbour_496 rfl (lv_at hl 0 rfl) ?_
                    refine va_get (D := (dC, dI)) (ci := 5) (v := .ref (a 14)) (C := RX7) (T := TX7) (N := 25) hx hb hts hinX7 hown hK hP 0 rfl rfl 18 (by decide) hf_54 (fun _ h9 => h9) rfl dX7_findNeighbour_497 ?_
                    refine lv_iload hx hb dX7_findNeighbour_500 (lv_at hl 1 rfl) ?_
                    obtain ⟨hi, hF⟩ := ck_of hF
                    refine va_lald hx hb hK hP 14 1 rfl rfl hi dX7_findNeighbour_502 ?_
                    obtain ⟨hi, hF⟩ := ck_of hF
                    obtain ⟨q_75, e_q_75, hF⟩ := nm_ex hF
                    refine kc_last (j := x7_73.toNatClampNeg) (g := q_75) hx hb hK hP hD hS 2 1 rfl rfl rfl hi dX7_findNeighbour_503 e_q_75 (fun H locs hP hD hS => ?_)
                    have hP : va_P (dC, dI) vwCl (mW cI cJ h a forms prime turns lineT_1 lineU_2 kinds upper lower numbers q_75 base least table rows lists listSize tried other line_3 makers_47 touches_21 made_72 kindForm kindTurns kindWays) H := hP
                    have hD : va_D A (mW cI cJ h a forms prime turns lineT_1 lineU_2 kinds upper lower numbers q_75 base least table rows lists listSize tried other line_3 makers_47 touches_21 made_72 kindForm kindTurns kindWays) := hD
                    obtain ⟨x7_76, e_x7_76, hF⟩ := nm_ex hF
                    refine lv_iinc (v := x7_76) (lv' := [(7, .int x7_76), (0, .ref h)]) hx hb dX7_findNeighbour_504 hl (k := 1) rfl (by rw [e_x7_76]; rfl) (by decide) rfl (fun ls hl => ?_)
                    refine lv_goto (tgt := 483) hx hb dX7_findNeighbour_507 (by decide) ?_
                    exact ih483 x7_76 q_75 H locs ls hP hD hS (lv_sub hl [1, 0] rfl) hF
              exact hL483 fu (0 : Int32) q H locs ls hP hD hS (lv_sub hl [1, 0] rfl) hF
            clear e_k480
            have hL365 : ∀ n : Nat, ∀ (x7_58 : Int32) (made_59 : Nat → Int64) (H : Heap) (locs : List Loc) (ls : Array Slot), va_P (dC, dI) vwCl (mW cI cJ h a forms prime turns lineT_1 lineU_2 kinds upper lower numbers q base least table rows lists listSize tried other line_3 makers_47 touches_21 made_59 kindForm kindTurns kindWays) H → va_D A (mW cI cJ h a forms prime turns lineT_1 lineU_2 kinds upper lower numbers q base least table rows lists listSize tried other line_3 makers_47 touches_21 made_59 kindForm kindTurns kindWays) → va_S A s.heap H locs → lv_has ls 10 [(0, .ref h), (5, .long x5_48), (7, .int x7_58)] → fX7_findNeighbour_L365 k480 q makers_47 x5_48 n x7_58 made_59 = some (o_turns, o_lineT, o_lineU, o_q, o_base, o_least, o_table, o_rows, o_lists, o_listSize, o_tried, o_line, o_makers, o_touches, o_made) → W p l e rmX7_findNeighbour s m ([.ref h, .int p0] : List Value).toArray below meth c H locs 0 0 Q (F0 m 365 ls []) := by
              intro n
              induction n with
              | zero => intro x7_58 made_59 H locs ls hP hD hS hl hF; rw [fX7_findNeighbour_L365] at hF; cases hF
              | succ n ih365 =>
                intro x7_58 made_59 H locs ls hP hD hS hl hF
                rw [fX7_findNeighbour_L365] at hF
                refine lv_iload hx hb dX7_findNeighbour_365 (lv_at hl 2 rfl) ?_
                refine lv_iconst (v := 3) hx hb dX7_findNeighbour_367 (by decide) ?_
                refine lv_icmp_ge (tgt := 480) hx hb dX7_findNeighbour_368 (by decide) (fun c0 => ?_) (fun c0 => ?_)
                · have hF := if_t hF c0
                  exact hk480 made_59 H locs ls hP hD hS (lv_sub hl [0] rfl) hF
                · have hF := if_f hF c0
                  refine lv_iload hx hb dX7_findNeighbour_371 (lv_at hl 2 rfl) ?_
                  obtain ⟨k381, e_k381, hF⟩ := nm_ex hF
                  have hk381 : ∀ (s_60 : Int32) (H : Heap) (locs : List Loc) (ls : Array Slot), va_P (dC, dI) vwCl (mW cI cJ h a forms prime turns lineT_1 lineU_2 kinds upper lower numbers q base least table rows lists listSize tried other line_3 makers_47 touches_21 made_59 kindForm kindTurns kindWays) H → va_D A (mW cI cJ h a forms prime turns lineT_1 lineU_2 kinds upper lower numbers q base least table rows lists listSize tried other line_3 makers_47 touches_21 made_59 kindForm kindTurns kindWays) → va_S A s.heap H locs → lv_has ls 10 [(0, .ref h), (5, .long x5_48), (7, .int x7_58)] → k381 s_60 = some (o_turns, o_lineT, o_lineU, o_q, o_base, o_least, o_table, o_rows, o_lists, o_listSize, o_tried, o_line, o_makers, o_touches, o_made) → W p l e rmX7_findNeighbour s m ([.ref h, .int p0] : List Value).toArray below meth c H locs 0 0 Q (F0 m 381 ls [.int s_60]) := by
                    intro s_60 H locs ls hP hD hS hl hF
                    have hF := ka1 e_k381 hF
                    refine lv_istore (lv' := [(8, .int s_60), (0, .ref h), (5, .long x5_48), (7, .int x7_58)]) hx hb dX7_findNeighbour_381 hl (by decide) rfl (fun ls hl => ?_)
                    refine lv_iload hx hb dX7_findNeighbour_383 (lv_at hl 3 rfl) ?_
                    refine lv_iconst (v := 2) hx hb dX7_findNeighbour_385 (by decide) ?_
                    obtain ⟨k394, e_k394, hF⟩ := nm_ex hF
                    have hk394 : ∀ (s_61 : Int32) (H : Heap) (locs : List Loc) (ls : Array Slot), va_P (dC, dI) vwCl (mW cI cJ h a forms prime turns lineT_1 lineU_2 kinds upper lower numbers q base least table rows lists listSize tried other line_3 makers_47 touches_21 made_59 kindForm kindTurns kindWays) H → va_D A (mW cI cJ h a forms prime turns lineT_1 lineU_2 kinds upper lower numbers q base least table rows lists listSize tried other line_3 makers_47 touches_21 made_59 kindForm kindTurns kindWays) → va_S A s.heap H locs → lv_has ls 10 [(0, .ref h), (5, .long x5_48), (7, .int x7_58), (8, .int s_60)] → k394 s_61 = some (o_turns, o_lineT, o_lineU, o_q, o_base, o_least, o_table, o_rows, o_lists, o_listSize, o_tried, o_line, o_makers, o_touches, o_made) → W p l e rmX7_findNeighbour s m ([.ref h, .int p0] : List Value).toArray below meth c H locs 0 0 Q (F0 m 394 ls [.int s_61]) := by
                      intro s_61 H locs ls hP hD hS hl hF
                      have hF := ka1 e_k394 hF
                      refine lv_istore (lv' := [(9, .int s_61), (0, .ref h), (5, .long x5_48), (7, .int x7_58), (8, .int s_60)]) hx hb dX7_findNeighbour_394 hl (by decide) rfl (fun ls hl => ?_)
                      refine lv_aload_n hx hb dX7_findNeighbour_396 rfl (lv_at hl 1 rfl) ?_
                      refine va_get (D := (dC, dI)) (ci := 5) (v := .ref (a 14)) (C := RX7) (T := TX7) (N := 25) hx hb hts hinX7 hown hK hP 0 rfl rfl 18 (by decide) hf_54 (fun _ h9 => h9) rfl dX7_findNeighbour_397 ?_
                      refine lv_iconst (v := 3) hx hb dX7_findNeighbour_400 (by decide) ?_
                      refine lv_iload hx hb dX7_findNeighbour_401 (lv_at hl 3 rfl) ?_
                      refine lv_iadd hx hb dX7_findNeighbour_403 ?_
                      refine lv_aload_n hx hb dX7_findNeighbour_404 rfl (lv_at hl 1 rfl) ?_
                      refine lv_aload_n hx hb dX7_findNeighbour_405 rfl (lv_at hl 1 rfl) ?_
                      refine va_get (D := (dC, dI)) (ci := 5) (v := .ref (a 12)) (C := RX7) (T := TX7) (N := 25) hx hb hts hinX7 hown hK hP 0 rfl rfl 16 (by decide) hf_48 (fun _ h9 => h9) rfl dX7_findNeighbour_406 ?_
                      refine lv_iconst (v := 3) hx hb dX7_findNeighbour_409 (by decide) ?_
                      refine lv_iload hx hb dX7_findNeighbour_410 (lv_at hl 4 rfl) ?_
                      refine lv_imul hx hb dX7_findNeighbour_412 ?_
                      refine lv_topi (fun v_62 e_v_62 => ?_)
                      have hF := nm_at hF e_v_62
                      obtain ⟨hi, hF⟩ := ck_of hF
                      refine va_lald hx hb hK hP 12 1 rfl rfl hi dX7_findNeighbour_413 ?_
                      refine lv_aload_n hx hb dX7_findNeighbour_414 rfl (lv_at hl 1 rfl) ?_
                      refine va_get (D := (dC, dI)) (ci := 5) (v := .ref (a 12)) (C := RX7) (T := TX7) (N := 25) hx hb hts hinX7 hown hK hP 0 rfl rfl 16 (by decide) hf_48 (fun _ h9 => h9) rfl dX7_findNeighbour_415 ?_
                      refine lv_iconst (v := 3) hx hb dX7_findNeighbour_418 (by decide) ?_
                      refine lv_iload hx hb dX7_findNeighbour_419 (lv_at hl 4 rfl) ?_
                      refine lv_imul hx hb dX7_findNeighbour_421 ?_
                      refine lv_iconst (v := 1) hx hb dX7_findNeighbour_422 (by decide) ?_
                      refine lv_iadd hx hb dX7_findNeighbour_423 ?_
                      refine lv_topi (fun v_63 e_v_63 => ?_)
                      have hF := nm_at hF e_v_63
                      obtain ⟨hi, hF⟩ := ck_of hF
                      refine va_lald hx hb hK hP 12 1 rfl rfl hi dX7_findNeighbour_424 ?_
                      refine lv_aload_n hx hb dX7_findNeighbour_425 rfl (lv_at hl 1 rfl) ?_
                      refine va_get (D := (dC, dI)) (ci := 5) (v := .ref (a 12)) (C := RX7) (T := TX7) (N := 25) hx hb hts hinX7 hown hK hP 0 rfl rfl 16 (by decide) hf_48 (fun _ h9 => h9) rfl dX7_findNeighbour_426 ?_
                      refine lv_iconst (v := 3) hx hb dX7_findNeighbour_429 (by decide) ?_
                      refine lv_iload hx hb dX7_findNeighbour_430 (lv_at hl 4 rfl) ?_
                      refine lv_imul hx hb dX7_findNeighbour_432 ?_
                      refine lv_iconst (v := 2) hx hb dX7_findNeighbour_433 (by decide) ?_
                      refine lv_iadd hx hb dX7_findNeighbour_434 ?_
                      refine lv_topi (fun v_64 e_v_64 => ?_)
                      have hF := nm_at hF e_v_64
                      obtain ⟨hi, hF⟩ := ck_of hF
                      refine va_lald hx hb hK hP 12 1 rfl rfl hi dX7_findNeighbour_435 ?_
                      refine lv_aload_n hx hb dX7_findNeighbour_436 rfl (lv_at hl 1 rfl) ?_
                      refine va_get (D := (dC, dI)) (ci := 5) (v := .ref (a 12)) (C := RX7) (T := TX7) (N := 25) hx hb hts hinX7 hown hK hP 0 rfl rfl 16 (by decide) hf_48 (fun _ h9 => h9) rfl dX7_findNeighbour_437 ?_
                      refine lv_iconst (v := 3) hx hb dX7_findNeighbour_440 (by decide) ?_
                      refine lv_iload hx hb dX7_findNeighbour_441 (lv_at hl 0 rfl) ?_
                      refine lv_imul hx hb dX7_findNeighbour_443 ?_
                      refine lv_topi (fun v_65 e_v_65 => ?_)
                      have hF := nm_at hF e_v_65
                      obtain ⟨hi, hF⟩ := ck_of hF
                      refine va_lald hx hb hK hP 12 1 rfl rfl hi dX7_findNeighbour_444 ?_
                      refine lv_aload_n hx hb dX7_findNeighbour_445 rfl (lv_at hl 1 rfl) ?_
                      refine va_get (D := (dC, dI)) (ci := 5) (v := .ref (a 12)) (C := RX7) (T := TX7) (N := 25) hx hb hts hinX7 hown hK hP 0 rfl rfl 16 (by decide) hf_48 (fun _ h9 => h9) rfl dX7_findNeighbour_446 ?_
                      refine lv_iconst (v := 3) hx hb dX7_findNeighbour_449 (by decide) ?_
                      refine lv_iload hx hb dX7_findNeighbour_450 (lv_at hl 0 rfl) ?_
                      refine lv_imul hx hb dX7_findNeighbour_452 ?_
                      refine lv_iconst (v := 1) hx hb dX7_findNeighbour_453 (by decide) ?_
                      refine lv_iadd hx hb dX7_findNeighbour_454 ?_
                      refine lv_topi (fun v_66 e_v_66 => ?_)
                      have hF := nm_at hF e_v_66
                      obtain ⟨hi, hF⟩ := ck_of hF
                      refine va_lald hx hb hK hP 12 1 rfl rfl hi dX7_findNeighbour_455 ?_
                      refine lv_aload_n hx hb dX7_findNeighbour_456 rfl (lv_at hl 1 rfl) ?_
                      refine va_get (D := (dC, dI)) (ci := 5) (v := .ref (a 12)) (C := RX7) (T := TX7) (N := 25) hx hb hts hinX7 hown hK hP 0 rfl rfl 16 (by decide) hf_48 (fun _ h9 => h9) rfl dX7_findNeighbour_457 ?_
                      refine lv_iconst (v := 3) hx hb dX7_findNeighbour_460 (by decide) ?_
                      refine lv_iload hx hb dX7_findNeighbour_461 (lv_at hl 0 rfl) ?_
                      refine lv_imul hx hb dX7_findNeighbour_463 ?_
                      refine lv_iconst (v := 2) hx hb dX7_findNeighbour_464 (by decide) ?_
                      refine lv_iadd hx hb dX7_findNeighbour_465 ?_
                      refine lv_topi (fun v_67 e_v_67 => ?_)
                      have hF := nm_at hF e_v_67
                      obtain ⟨hi, hF⟩ := ck_of hF
                      refine va_lald hx hb hK hP 12 1 rfl rfl hi dX7_findNeighbour_466 ?_
                      obtain ⟨r_68, hc, hF⟩ := bd1_of hF
                      refine rc_l (va_runV (As := [.long (makers_47 v_62.toNatClampNeg), .long (makers_47 v_63.toNatClampNeg), .long (makers_47 v_64.toNatClampNeg), .long (makers_47 v_65.toNatClampNeg), .long (makers_47 v_66.toNatClampNeg), .long (makers_47 v_67.toNatClampNeg)]) (rest := [.int ((3 : Int32) + x7_58), .ref (a 14)]) ⟨hx, hb, hml, hown, hts⟩ (c_X7_touchOf l dC dI cI cJ h a forms prime turns lineT_1 lineU_2 kinds upper lower numbers q base least table rows lists listSize tried other line_3 makers_47 touches_21 made_59 kindForm kindTurns kindWays (makers_47 v_62.toNatClampNeg) (makers_47 v_63.toNatClampNeg) (makers_47 v_64.toNatClampNeg) (makers_47 v_65.toNatClampNeg) (makers_47 v_66.toNatClampNeg) (makers_47 v_67.toNatClampNeg) r_68 hc) (cwV 6 hts g_X7_findNeighbour_X7_touchOf rfl rfl rfl (by decide +kernel) ⟨Nat.le_of_ble_eq_true rfl, Nat.le_of_ble_eq_true rfl⟩) ⟨rPc_blind, va_recv hK hP (ci := 5) (q0 := 0) rfl rfl, rPc_at hK hP⟩ rfl rfl hl.1 rfl (lv_room (Nat.le_of_ble_eq_true rfl)) dX7_findNeighbour_467 ⟨Nat.zero_le _, Nat.zero_le _⟩) ?_
                      refine lv_lload hx hb dX7_findNeighbour_470 (lv_at hl 2 rfl) ?_
                      obtain ⟨hz, hF⟩ := ck_of hF
                      refine lv_ldiv hx hb dX7_findNeighbour_472 hz ?_
                      obtain ⟨v_69, e_v_69, hF⟩ := nm_ex hF
                      rw [← e_v_69]
                      obtain ⟨hi, hF⟩ := ck_of hF
                      obtain ⟨made_70, e_made_70, hF⟩ := nm_ex hF
                      refine kc_last (j := v_69.toNatClampNeg) (g := made_70) hx hb hK hP hD hS 14 1 rfl rfl rfl hi dX7_findNeighbour_473 e_made_70 (fun H locs hP hD hS => ?_)
                      have hP : va_P (dC, dI) vwCl (mW cI cJ h a forms prime turns lineT_1 lineU_2 kinds upper lower numbers q base least table rows lists listSize tried other line_3 makers_47 touches_21 made_70 kindForm kindTurns kindWays) H := hP
                      have hD : va_D A (mW cI cJ h a forms prime turns lineT_1 lineU_2 kinds upper lower numbers q base least table rows lists listSize tried other line_3 makers_47 touches_21 made_70 kindForm kindTurns kindWays) := hD
                      obtain ⟨x7_71, e_x7_71, hF⟩ := nm_ex hF
                      refine lv_iinc (v := x7_71) (lv' := [(7, .int x7_71), (9, .int s_61), (0, .ref h), (5, .long x5_48), (8, .int s_60)]) hx hb dX7_findNeighbour_474 hl (k := 3) rfl (by rw [e_x7_71]; rfl) (by decide) rfl (fun ls hl => ?_)
                      refine lv_goto (tgt := 365) hx hb dX7_findNeighbour_477 (by decide) ?_
                      exact ih365 x7_71 made_70 H locs ls hP hD hS (lv_sub hl [2, 3, 0] rfl) hF
                    clear e_k394
                    refine lv_icmp_ne (tgt := 393) hx hb dX7_findNeighbour_386 (by decide) (fun c0 => ?_) (fun c0 => ?_)
                    · have hF := if_f hF c0
                      refine lv_iconst (v := 2) hx hb dX7_findNeighbour_393 (by decide) ?_
                      exact hk394 (2 : Int32) H locs ls hP hD hS (lv_sub hl [1, 2, 3, 0] rfl) hF
                    · have hF := if_t hF c0
                      refine lv_iconst (v := 1) hx hb dX7_findNeighbour_389 (by decide) ?_
                      refine lv_goto (tgt := 394) hx hb dX7_findNeighbour_390 (by decide) ?_
                      exact hk394 (1 : Int32) H locs ls hP hD hS (lv_sub hl [1, 2, 3, 0] rfl) hF
                  clear e_k381
                  refine lv_if_ne (tgt := 380) hx hb dX7_findNeighbour_373 (by decide) (fun c0 => ?_) (fun c0 => ?_)
                  · have hF := if_f hF c0
                    refine lv_iconst (v := 0) hx hb dX7_findNeighbour_380 (by decide) ?_
                    exact hk381 (0 : Int32) H locs ls hP hD hS (lv_sub hl [0, 1, 2] rfl) hF
                  · have hF := if_t hF c0
                    refine lv_iconst (v := 1) hx hb dX7_findNeighbour_376 (by decide) ?_
                    refine lv_goto (tgt := 381) hx hb dX7_findNeighbour_377 (by decide) ?_
                    exact hk381 (1 : Int32) H locs ls hP hD hS (lv_sub hl [0, 1, 2] rfl) hF
            exact hL365 fu (0 : Int32) made_57 H locs ls hP hD hS (lv_sub hl [1, 2, 0] rfl) hF
          clear e_k362
          have hL305 : ∀ n : Nat, ∀ (x7_49 : Int32) (made_50 : Nat → Int64) (H : Heap) (locs : List Loc) (ls : Array Slot), va_P (dC, dI) vwCl (mW cI cJ h a forms prime turns lineT_1 lineU_2 kinds upper lower numbers q base least table rows lists listSize tried other line_3 makers_47 touches_21 made_50 kindForm kindTurns kindWays) H → va_D A (mW cI cJ h a forms prime turns lineT_1 lineU_2 kinds upper lower numbers q base least table rows lists listSize tried other line_3 makers_47 touches_21 made_50 kindForm kindTurns kindWays) → va_S A s.heap H locs → lv_has ls 10 [(0, .ref h), (5, .long x5_48), (7, .int x7_49)] → fX7_findNeighbour_L305 k362 q makers_47 x5_48 n x7_49 made_50 = some (o_turns, o_lineT, o_lineU, o_q, o_base, o_least, o_table, o_rows, o_lists, o_listSize, o_tried, o_line, o_makers, o_touches, o_made) → W p l e rmX7_findNeighbour s m ([.ref h, .int p0] : List Value).toArray below meth c H locs 0 0 Q (F0 m 305 ls []) := by
            intro n
            induction n with
            | zero => intro x7_49 made_50 H locs ls hP hD hS hl hF; rw [fX7_findNeighbour_L305] at hF; cases hF
            | succ n ih305 =>
              intro x7_49 made_50 H locs ls hP hD hS hl hF
              rw [fX7_findNeighbour_L305] at hF
              refine lv_iload hx hb dX7_findNeighbour_305 (lv_at hl 2 rfl) ?_
              refine lv_iconst (v := 3) hx hb dX7_findNeighbour_307 (by decide) ?_
              refine lv_icmp_ge (tgt := 362) hx hb dX7_findNeighbour_308 (by decide) (fun c0 => ?_) (fun c0 => ?_)
              · have hF := if_t hF c0
                exact hk362 made_50 H locs ls hP hD hS (lv_sub hl [0, 1] rfl) hF
              · have hF := if_f hF c0
                refine lv_aload_n hx hb dX7_findNeighbour_311 rfl (lv_at hl 0 rfl) ?_
                refine va_get (D := (dC, dI)) (ci := 5) (v := .ref (a 14)) (C := RX7) (T := TX7) (N := 25) hx hb hts hinX7 hown hK hP 0 rfl rfl 18 (by decide) hf_54 (fun _ h9 => h9) rfl dX7_findNeighbour_312 ?_
                refine lv_iload hx hb dX7_findNeighbour_315 (lv_at hl 2 rfl) ?_
                refine lv_aload_n hx hb dX7_findNeighbour_317 rfl (lv_at hl 0 rfl) ?_
                refine lv_aload_n hx hb dX7_findNeighbour_318 rfl (lv_at hl 0 rfl) ?_
                refine va_get (D := (dC, dI)) (ci := 5) (v := .ref (a 12)) (C := RX7) (T := TX7) (N := 25) hx hb hts hinX7 hown hK hP 0 rfl rfl 16 (by decide) hf_48 (fun _ h9 => h9) rfl dX7_findNeighbour_319 ?_
                refine lv_iconst (v := 3) hx hb dX7_findNeighbour_322 (by decide) ?_
                refine lv_iload hx hb dX7_findNeighbour_323 (lv_at hl 2 rfl) ?_
                refine lv_imul hx hb dX7_findNeighbour_325 ?_
                refine lv_topi (fun v_51 e_v_51 => ?_)
                have hF := nm_at hF e_v_51
                obtain ⟨hi, hF⟩ := ck_of hF
                refine va_lald hx hb hK hP 12 1 rfl rfl hi dX7_findNeighbour_326 ?_
                refine lv_aload_n hx hb dX7_findNeighbour_327 rfl (lv_at hl 0 rfl) ?_
                refine va_get (D := (dC, dI)) (ci := 5) (v := .ref (a 12)) (C := RX7) (T := TX7) (N := 25) hx hb hts hinX7 hown hK hP 0 rfl rfl 16 (by decide) hf_48 (fun _ h9 => h9) rfl dX7_findNeighbour_328 ?_
                refine lv_iconst (v := 3) hx hb dX7_findNeighbour_331 (by decide) ?_
                refine lv_iload hx hb dX7_findNeighbour_332 (lv_at hl 2 rfl) ?_
                refine lv_imul hx hb dX7_findNeighbour_334 ?_
                refine lv_iconst (v := 1) hx hb dX7_findNeighbour_335 (by decide) ?_
                refine lv_iadd hx hb dX7_findNeighbour_336 ?_
                refine lv_topi (fun v_52 e_v_52 => ?_)
                have hF := nm_at hF e_v_52
                obtain ⟨hi, hF⟩ := ck_of hF
                refine va_lald hx hb hK hP 12 1 rfl rfl hi dX7_findNeighbour_337 ?_
                refine lv_aload_n hx hb dX7_findNeighbour_338 rfl (lv_at hl 0 rfl) ?_
                refine va_get (D := (dC, dI)) (ci := 5) (v := .ref (a 12)) (C := RX7) (T := TX7) (N := 25) hx hb hts hinX7 hown hK hP 0 rfl rfl 16 (by decide) hf_48 (fun _ h9 => h9) rfl dX7_findNeighbour_339 ?_
                refine lv_iconst (v := 3) hx hb dX7_findNeighbour_342 (by decide) ?_
                refine lv_iload hx hb dX7_findNeighbour_343 (lv_at hl 2 rfl) ?_
                refine lv_imul hx hb dX7_findNeighbour_345 ?_
                refine lv_iconst (v := 2) hx hb dX7_findNeighbour_346 (by decide) ?_
                refine lv_iadd hx hb dX7_findNeighbour_347 ?_
                refine lv_topi (fun v_53 e_v_53 => ?_)
                have hF := nm_at hF e_v_53
                obtain ⟨hi, hF⟩ := ck_of hF
                refine va_lald hx hb hK hP 12 1 rfl rfl hi dX7_findNeighbour_348 ?_
                obtain ⟨r_54, hc, hF⟩ := bd1_of hF
                refine rc_l (va_runV (As := [.long (makers_47 v_51.toNatClampNeg), .long (makers_47 v_52.toNatClampNeg), .long (makers_47 v_53.toNatClampNeg)]) (rest := [.int x7_49, .ref (a 14)]) ⟨hx, hb, hml, hown, hts⟩ (c_X7_valueOf l dC dI cI cJ h a forms prime turns lineT_1 lineU_2 kinds upper lower numbers q base least table rows lists listSize tried other line_3 makers_47 touches_21 made_50 kindForm kindTurns kindWays (makers_47 v_51.toNatClampNeg) (makers_47 v_52.toNatClampNeg) (makers_47 v_53.toNatClampNeg) r_54 hc) (cwV 3 hts g_X7_findNeighbour_X7_valueOf rfl rfl rfl (by decide +kernel) ⟨Nat.le_of_ble_eq_true rfl, Nat.le_of_ble_eq_true rfl⟩) ⟨rPc_blind, va_recv hK hP (ci := 5) (q0 := 0) rfl rfl, rPc_at hK hP⟩ rfl rfl hl.1 rfl (lv_room (Nat.le_of_ble_eq_true rfl)) dX7_findNeighbour_349 ⟨Nat.zero_le _, Nat.zero_le _⟩) ?_
                refine lv_lload hx hb dX7_findNeighbour_352 (lv_at hl 1 rfl) ?_
                obtain ⟨hz, hF⟩ := ck_of hF
                refine lv_ldiv hx hb dX7_findNeighbour_354 hz ?_
                obtain ⟨hi, hF⟩ := ck_of hF
                obtain ⟨made_55, e_made_55, hF⟩ := nm_ex hF
                refine kc_last (j := x7_49.toNatClampNeg) (g := made_55) hx hb hK hP hD hS 14 1 rfl rfl rfl hi dX7_findNeighbour_355 e_made_55 (fun H locs hP hD hS => ?_)
                have hP : va_P (dC, dI) vwCl (mW cI cJ h a forms prime turns lineT_1 lineU_2 kinds upper lower numbers q base least table rows lists listSize tried other line_3 makers_47 touches_21 made_55 kindForm kindTurns kindWays) H := hP
                have hD : va_D A (mW cI cJ h a forms prime turns lineT_1 lineU_2 kinds upper lower numbers q base least table rows lists listSize tried other line_3 makers_47 touches_21 made_55 kindForm kindTurns kindWays) := hD
                obtain ⟨x7_56, e_x7_56, hF⟩ := nm_ex hF
                refine lv_iinc (v := x7_56) (lv' := [(7, .int x7_56), (0, .ref h), (5, .long x5_48)]) hx hb dX7_findNeighbour_356 hl (k := 2) rfl (by rw [e_x7_56]; rfl) (by decide) rfl (fun ls hl => ?_)
                refine lv_goto (tgt := 305) hx hb dX7_findNeighbour_359 (by decide) ?_
                exact ih305 x7_56 made_55 H locs ls hP hD hS (lv_sub hl [1, 2, 0] rfl) hF
          exact hL305 fu (0 : Int32) made H locs ls hP hD hS (lv_sub hl [2, 1, 0] rfl) hF
        clear e_k285
        have hL257 : ∀ n : Nat, ∀ (x5_40 : Int32) (makers_41 : Nat → Int64) (H : Heap) (locs : List Loc) (ls : Array Slot), va_P (dC, dI) vwCl (mW cI cJ h a forms prime turns lineT_1 lineU_2 kinds upper lower numbers q base least table rows lists listSize tried other line_3 makers_41 touches_21 made kindForm kindTurns kindWays) H → va_D A (mW cI cJ h a forms prime turns lineT_1 lineU_2 kinds upper lower numbers q base least table rows lists listSize tried other line_3 makers_41 touches_21 made kindForm kindTurns kindWays) → va_S A s.heap H locs → lv_has ls 10 [(0, .ref h), (5, .int x5_40)] → fX7_findNeighbour_L257 k285 prime lineT_1 lineU_2 line_3 n x5_40 makers_41 = some (o_turns, o_lineT, o_lineU, o_q, o_base, o_least, o_table, o_rows, o_lists, o_listSize, o_tried, o_line, o_makers, o_touches, o_made) → W p l e rmX7_findNeighbour s m ([.ref h, .int p0] : List Value).toArray below meth c H locs 0 0 Q (F0 m 257 ls []) := by
          intro n
          induction n with
          | zero => intro x5_40 makers_41 H locs ls hP hD hS hl hF; rw [fX7_findNeighbour_L257] at hF; cases hF
          | succ n ih257 =>
            intro x5_40 makers_41 H locs ls hP hD hS hl hF
            rw [fX7_findNeighbour_L257] at hF
            refine lv_iload hx hb dX7_findNeighbour_257 (lv_at hl 1 rfl) ?_
            refine lv_iconst (v := 3) hx hb dX7_findNeighbour_259 (by decide) ?_
            refine lv_icmp_ge (tgt := 285) hx hb dX7_findNeighbour_260 (by decide) (fun c0 => ?_) (fun c0 => ?_)
            · have hF := if_t hF c0
              exact hk285 makers_41 H locs ls hP hD hS (lv_sub hl [0] rfl) hF
            · have hF := if_f hF c0
              refine lv_aload_n hx hb dX7_findNeighbour_263 rfl (lv_at hl 0 rfl) ?_
              refine va_get (D := (dC, dI)) (ci := 5) (v := .ref (a 12)) (C := RX7) (T := TX7) (N := 25) hx hb hts hinX7 hown hK hP 0 rfl rfl 16 (by decide) hf_48 (fun _ h9 => h9) rfl dX7_findNeighbour_264 ?_
              refine lv_bipush (v := (9)) hx hb dX7_findNeighbour_267 (by decide) ?_
              refine lv_iload hx hb dX7_findNeighbour_269 (lv_at hl 1 rfl) ?_
              refine lv_iadd hx hb dX7_findNeighbour_271 ?_
              refine lv_aload_n hx hb dX7_findNeighbour_272 rfl (lv_at hl 0 rfl) ?_
              refine lv_iload hx hb dX7_findNeighbour_273 (lv_at hl 1 rfl) ?_
              obtain ⟨r_42, hc, hF⟩ := bd1_of hF
              refine rc_l (va_runV (As := [.int x5_40]) (rest := [.int ((9 : Int32) + x5_40), .ref (a 12)]) ⟨hx, hb, hml, hown, hts⟩ (c_X7_lined l dC dI cI cJ h a forms prime turns lineT_1 lineU_2 kinds upper lower numbers q base least table rows lists listSize tried other line_3 makers_41 touches_21 made kindForm kindTurns kindWays x5_40 r_42 hc) (cwV 1 hts g_X7_findNeighbour_X7_lined rfl rfl rfl (by decide +kernel) ⟨Nat.le_of_ble_eq_true rfl, Nat.le_of_ble_eq_true rfl⟩) ⟨rPc_blind, va_recv hK hP (ci := 5) (q0 := 0) rfl rfl, rPc_at hK hP⟩ rfl rfl hl.1 rfl (lv_room (Nat.le_of_ble_eq_true rfl)) dX7_findNeighbour_275 ⟨Nat.zero_le _, Nat.zero_le _⟩) ?_
              obtain ⟨v_43, e_v_43, hF⟩ := nm_ex hF
              rw [← e_v_43]
              obtain ⟨hi, hF⟩ := ck_of hF
              obtain ⟨makers_44, e_makers_44, hF⟩ := nm_ex hF
              refine kc_last (j := v_43.toNatClampNeg) (g := makers_44) hx hb hK hP hD hS 12 1 rfl rfl rfl hi dX7_findNeighbour_278 e_makers_44 (fun H locs hP hD hS => ?_)
              have hP : va_P (dC, dI) vwCl (mW cI cJ h a forms prime turns lineT_1 lineU_2 kinds upper lower numbers q base least table rows lists listSize tried other line_3 makers_44 touches_21 made kindForm kindTurns kindWays) H := hP
              have hD : va_D A (mW cI cJ h a forms prime turns lineT_1 lineU_2 kinds upper lower numbers q base least table rows lists listSize tried other line_3 makers_44 touches_21 made kindForm kindTurns kindWays) := hD
              obtain ⟨x5_45, e_x5_45, hF⟩ := nm_ex hF
              refine lv_iinc (v := x5_45) (lv' := [(5, .int x5_45), (0, .ref h)]) hx hb dX7_findNeighbour_279 hl (k := 1) rfl (by rw [e_x5_45]; rfl) (by decide) rfl (fun ls hl => ?_)
              refine lv_goto (tgt := 257) hx hb dX7_findNeighbour_282 (by decide) ?_
              exact ih257 x5_45 makers_44 H locs ls hP hD hS (lv_sub hl [1, 0] rfl) hF
        exact hL257 fu (0 : Int32) makers_39 H locs ls hP hD hS (lv_sub hl [1, 0] rfl) hF
      clear e_k254
      have hL144 : ∀ n : Nat, ∀ (x5_27 : Int32) (makers_28 : Nat → Int64) (H : Heap) (locs : List Loc) (ls : Array Slot), va_P (dC, dI) vwCl (mW cI cJ h a forms prime turns lineT_1 lineU_2 kinds upper lower numbers q base least table rows lists listSize tried other line_3 makers_28 touches_21 made kindForm kindTurns kindWays) H → va_D A (mW cI cJ h a forms prime turns lineT_1 lineU_2 kinds upper lower numbers q base least table rows lists listSize tried other line_3 makers_28 touches_21 made kindForm kindTurns kindWays) → va_S A s.heap H locs → lv_has ls 10 [(0, .ref h), (2, .int x2_20), (3, .long x3_26), (5, .int x5_27)] → fX7_findNeighbour_L144 k254 prime x2_20 touches_21 x3_26 fu n x5_27 makers_28 = some (o_turns, o_lineT, o_lineU, o_q, o_base, o_least, o_table, o_rows, o_lists, o_listSize, o_tried, o_line, o_makers, o_touches, o_made) → W p l e rmX7_findNeighbour s m ([.ref h, .int p0] : List Value).toArray below meth c H locs 0 0 Q (F0 m 144 ls []) := by
        intro n
        induction n with
        | zero => intro x5_27 makers_28 H locs ls hP hD hS hl hF; rw [fX7_findNeighbour_L144] at hF; cases hF
        | succ n ih144 =>
          intro x5_27 makers_28 H locs ls hP hD hS hl hF
          rw [fX7_findNeighbour_L144] at hF
          refine lv_iload hx hb dX7_findNeighbour_144 (lv_at hl 3 rfl) ?_
          refine lv_iconst (v := 3) hx hb dX7_findNeighbour_146 (by decide) ?_
          refine lv_icmp_ge (tgt := 254) hx hb dX7_findNeighbour_147 (by decide) (fun c0 => ?_) (fun c0 => ?_)
          · have hF := if_t hF c0
            exact hk254 makers_28 H locs ls hP hD hS (lv_sub hl [0] rfl) hF
          · have hF := if_f hF c0
            refine lv_iconst (v := 0) hx hb dX7_findNeighbour_150 (by decide) ?_
            refine lv_istore (lv' := [(6, .int (0 : Int32)), (0, .ref h), (2, .int x2_20), (3, .long x3_26), (5, .int x5_27)]) hx hb dX7_findNeighbour_151 hl (by decide) rfl (fun ls hl => ?_)
            obtain ⟨k248, e_k248, hF⟩ := nm_ex hF
            have hk248 : ∀ (makers_37 : Nat → Int64) (H : Heap) (locs : List Loc) (ls : Array Slot), va_P (dC, dI) vwCl (mW cI cJ h a forms prime turns lineT_1 lineU_2 kinds upper lower numbers q base least table rows lists listSize tried other line_3 makers_37 touches_21 made kindForm kindTurns kindWays) H → va_D A (mW cI cJ h a forms prime turns lineT_1 lineU_2 kinds upper lower numbers q base least table rows lists listSize tried other line_3 makers_37 touches_21 made kindForm kindTurns kindWays) → va_S A s.heap H locs → lv_has ls 10 [(0, .ref h), (2, .int x2_20), (3, .long x3_26), (5, .int x5_27)] → k248 makers_37 = some (o_turns, o_lineT, o_lineU, o_q, o_base, o_least, o_table, o_rows, o_lists, o_listSize, o_tried, o_line, o_makers, o_touches, o_made) → W p l e rmX7_findNeighbour s m ([.ref h, .int p0] : List Value).toArray below meth c H locs 0 0 Q (F0 m 248 ls []) := by
              intro makers_37 H locs ls hP hD hS hl hF
              have hF := ka1 e_k248 hF
              obtain ⟨x5_38, e_x5_38, hF⟩ := nm_ex hF
              refine lv_iinc (v := x5_38) (lv' := [(5, .int x5_38), (0, .ref h), (2, .int x2_20), (3, .long x3_26)]) hx hb dX7_findNeighbour_248 hl (k := 3) rfl (by rw [e_x5_38]; rfl) (by decide) rfl (fun ls hl => ?_)
              refine lv_goto (tgt := 144) hx hb dX7_findNeighbour_251 (by decide) ?_
              exact ih144 x5_38 makers_37 H locs ls hP hD hS (lv_sub hl [1, 2, 3, 0] rfl) hF
            clear e_k248
            have hL153 : ∀ n : Nat, ∀ (x6_29 : Int32) (makers_30 : Nat → Int64) (H : Heap) (locs : List Loc) (ls : Array Slot), va_P (dC, dI) vwCl (mW cI cJ h a forms prime turns lineT_1 lineU_2 kinds upper lower numbers q base least table rows lists listSize tried other line_3 makers_30 touches_21 made kindForm kindTurns kindWays) H → va_D A (mW cI cJ h a forms prime turns lineT_1 lineU_2 kinds upper lower numbers q base least table rows lists listSize tried other line_3 makers_30 touches_21 made kindForm kindTurns kindWays) → va_S A s.heap H locs → lv_has ls 10 [(0, .ref h), (2, .int x2_20), (3, .long x3_26), (5, .int x5_27), (6, .int x6_29)] → fX7_findNeighbour_L153 k248 x5_27 prime x2_20 touches_21 x3_26 n x6_29 makers_30 = some (o_turns, o_lineT, o_lineU, o_q, o_base, o_least, o_table, o_rows, o_lists, o_listSize, o_tried, o_line, o_makers, o_touches, o_made) → W p l e rmX7_findNeighbour s m ([.ref h, .int p0] : List Value).toArray below meth c H locs 0 0 Q (F0 m 153 ls []) := by
              intro n
              induction n with
              | zero => intro x6_29 makers_30 H locs ls hP hD hS hl hF; rw [fX7_findNeighbour_L153] at hF; cases hF
              | succ n ih153 =>
                intro x6_29 makers_30 H locs ls hP hD hS hl hF
                rw [fX7_findNeighbour_L153] at hF
                refine lv_iload hx hb dX7_findNeighbour_153 (lv_at hl 4 rfl) ?_
                refine lv_iconst (v := 3) hx hb dX7_findNeighbour_155 (by decide) ?_
                refine lv_icmp_ge (tgt := 248) hx hb dX7_findNeighbour_156 (by decide) (fun c0 => ?_) (fun c0 => ?_)
                · have hF := if_t hF c0
                  exact hk248 makers_30 H locs ls hP hD hS (lv_sub hl [0, 1, 2, 3] rfl) hF
                · have hF := if_f hF c0
                  refine lv_iload hx hb dX7_findNeighbour_159 (lv_at hl 3 rfl) ?_
                  refine lv_iload_n hx hb dX7_findNeighbour_161 rfl (lv_at hl 1 rfl) ?_
                  obtain ⟨k220, e_k220, hF⟩ := nm_ex hF
                  have hk220 : ∀ (s_33 : Int64) (H : Heap) (locs : List Loc) (ls : Array Slot), va_P (dC, dI) vwCl (mW cI cJ h a forms prime turns lineT_1 lineU_2 kinds upper lower numbers q base least table rows lists listSize tried other line_3 makers_30 touches_21 made kindForm kindTurns kindWays) H → va_D A (mW cI cJ h a forms prime turns lineT_1 lineU_2 kinds upper lower numbers q base least table rows lists listSize tried other line_3 makers_30 touches_21 made kindForm kindTurns kindWays) → va_S A s.heap H locs → lv_has ls 10 [(0, .ref h), (2, .int x2_20), (3, .long x3_26), (5, .int x5_27), (6, .int x6_29)] → k220 s_33 = some (o_turns, o_lineT, o_lineU, o_q, o_base, o_least, o_table, o_rows, o_lists, o_listSize, o_tried, o_line, o_makers, o_touches, o_made) → W p l e rmX7_findNeighbour s m ([.ref h, .int p0] : List Value).toArray below meth c H locs 0 0 Q (F0 m 220 ls [.long s_33]) := by
                    intro s_33 H locs ls hP hD hS hl hF
                    have hF := ka1 e_k220 hF
                    refine lv_lstore (lv' := [(7, .long s_33), (0, .ref h), (2, .int x2_20), (3, .long x3_26), (5, .int x5_27), (6, .int x6_29)]) hx hb dX7_findNeighbour_220 hl (by decide) rfl (fun ls hl => ?_)
                    refine lv_aload_n hx hb dX7_findNeighbour_222 rfl (lv_at hl 1 rfl) ?_
                    refine va_get (D := (dC, dI)) (ci := 5) (v := .ref (a 12)) (C := RX7) (T := TX7) (N := 25) hx hb hts hinX7 hown hK hP 0 rfl rfl 16 (by decide) hf_48 (fun _ h9 => h9) rfl dX7_findNeighbour_223 ?_
                    refine lv_iconst (v := 3) hx hb dX7_findNeighbour_226 (by decide) ?_
                    refine lv_iload hx hb dX7_findNeighbour_227 (lv_at hl 4 rfl) ?_
                    refine lv_imul hx hb dX7_findNeighbour_229 ?_
                    refine lv_iload hx hb dX7_findNeighbour_230 (lv_at hl 5 rfl) ?_
                    refine lv_iadd hx hb dX7_findNeighbour_232 ?_
                    refine lv_aload_n hx hb dX7_findNeighbour_233 rfl (lv_at hl 1 rfl) ?_
                    refine va_get (D := (dC, dI)) (ci := 5) (v := .int prime) (C := RX7) (T := TX7) (N := 25) hx hb hts hinX7 hown hK hP 0 rfl rfl 2 (by decide) hf_13 (fun _ h9 => h9) rfl dX7_findNeighbour_234 ?_
                    refine lv_i2l (v := prime.toInt64) hx hb dX7_findNeighbour_237 rfl ?_
                    refine lv_lload hx hb dX7_findNeighbour_238 (lv_at hl 0 rfl) ?_
                    refine lv_lmul hx hb dX7_findNeighbour_240 ?_
                    obtain ⟨v_34, e_v_34, hF⟩ := nm_ex hF
                    rw [← e_v_34]
                    obtain ⟨hi, hF⟩ := ck_of hF
                    obtain ⟨makers_35, e_makers_35, hF⟩ := nm_ex hF
                    refine kc_last (j := v_34.toNatClampNeg) (g := makers_35) hx hb hK hP hD hS 12 1 rfl rfl rfl hi dX7_findNeighbour_241 e_makers_35 (fun H locs hP hD hS => ?_)
                    have hP : va_P (dC, dI) vwCl (mW cI cJ h a forms prime turns lineT_1 lineU_2 kinds upper lower numbers q base least table rows lists listSize tried other line_3 makers_35 touches_21 made kindForm kindTurns kindWays) H := hP
                    have hD : va_D A (mW cI cJ h a forms prime turns lineT_1 lineU_2 kinds upper lower numbers q base least table rows lists listSize tried other line_3 makers_35 touches_21 made kindForm kindTurns kindWays) := hD
                    obtain ⟨x6_36, e_x6_36, hF⟩ := nm_ex hF
                    refine lv_iinc (v := x6_36) (lv' := [(6, .int x6_36), (7, .long s_33), (0, .ref h), (2, .int x2_20), (3, .long x3_26), (5, .int x5_27)]) hx hb dX7_findNeighbour_242 hl (k := 5) rfl (by rw [e_x6_36]; rfl) (by decide) rfl (fun ls hl => ?_)
                    refine lv_goto (tgt := 153) hx hb dX7_findNeighbour_245 (by decide) ?_
                    exact ih153 x6_36 makers_35 H locs ls hP hD hS (lv_sub hl [2, 3, 4, 5, 0] rfl) hF
                  clear e_k220
                  refine lv_icmp_ne (tgt := 183) hx hb dX7_findNeighbour_162 (by decide) (fun c0 => ?_) (fun c0 => ?_)
                  · have hF := if_f hF c0
                    refine lv_iload hx hb dX7_findNeighbour_183 (lv_at hl 4 rfl) ?_
                    refine lv_iload hx hb dX7_findNeighbour_185 (lv_at hl 3 rfl) ?_
                    refine lv_icmp_ne (tgt := 194) hx hb dX7_findNeighbour_187 (by decide) (fun c0 => ?_) (fun c0 => ?_)
                    · have hF := if_f hF c0
                      refine lv_iload hx hb dX7_findNeighbour_194 (lv_at hl 4 rfl) ?_
                      refine lv_iload_n hx hb dX7_findNeighbour_196 rfl (lv_at hl 1 rfl) ?_
                      refine lv_icmp_ne (tgt := 219) hx hb dX7_findNeighbour_197 (by decide) (fun c0 => ?_) (fun c0 => ?_)
                      · have hF := if_f hF c0
                        refine lv_lconst (v := 0) hx hb dX7_findNeighbour_219 (by decide) ?_
                        exact hk220 (0 : Int64) H locs ls hP hD hS (lv_sub hl [0, 1, 2, 3, 4] rfl) hF
                      · have hF := if_t hF c0
                        refine lv_aload_n hx hb dX7_findNeighbour_200 rfl (lv_at hl 0 rfl) ?_
                        refine va_get (D := (dC, dI)) (ci := 5) (v := .ref (a 13)) (C := RX7) (T := TX7) (N := 25) hx hb hts hinX7 hown hK hP 0 rfl rfl 17 (by decide) hf_51 (fun _ h9 => h9) rfl dX7_findNeighbour_201 ?_
                        refine lv_iload hx hb dX7_findNeighbour_204 (lv_at hl 3 rfl) ?_
                        obtain ⟨hi, hF⟩ := ck_of hF
                        refine va_lald hx hb hK hP 13 1 rfl rfl hi dX7_findNeighbour_206 ?_
                        refine lv_lload_n hx hb dX7_findNeighbour_207 rfl (lv_at hl 2 rfl) ?_
                        refine lv_lmul hx hb dX7_findNeighbour_208 ?_
                        refine lv_aload_n hx hb dX7_findNeighbour_209 rfl (lv_at hl 0 rfl) ?_
                        refine va_get (D := (dC, dI)) (ci := 5) (v := .int prime) (C := RX7) (T := TX7) (N := 25) hx hb hts hinX7 hown hK hP 0 rfl rfl 2 (by decide) hf_13 (fun _ h9 => h9) rfl dX7_findNeighbour_210 ?_
                        refine lv_i2l (v := prime.toInt64) hx hb dX7_findNeighbour_213 rfl ?_
                        obtain ⟨v_31, e_v_31, hF⟩ := nm_ex hF
                        rw [← e_v_31]
                        refine lv_topl (fun v_32 e_v_32 => ?_)
                        have hF := nm_at hF e_v_32
                        obtain ⟨hz, hF⟩ := ck_of hF
                        refine lv_lrem hx hb dX7_findNeighbour_214 hz ?_
                        refine lv_lneg hx hb dX7_findNeighbour_215 ?_
                        refine lv_goto (tgt := 220) hx hb dX7_findNeighbour_216 (by decide) ?_
                        exact hk220 (-(v_31 - v_31 / v_32 * v_32)) H locs ls hP hD hS (lv_sub hl [0, 1, 2, 3, 4] rfl) hF
                    · have hF := if_t hF c0
                      refine lv_lconst (v := 1) hx hb dX7_findNeighbour_190 (by decide) ?_
                      refine lv_goto (tgt := 220) hx hb dX7_findNeighbour_191 (by decide) ?_
                      exact hk220 (1 : Int64) H locs ls hP hD hS (lv_sub hl [0, 1, 2, 3, 4] rfl) hF
                  · have hF := if_t hF c0
                    refine lv_iload hx hb dX7_findNeighbour_165 (lv_at hl 4 rfl) ?_
                    refine lv_iload_n hx hb dX7_findNeighbour_167 rfl (lv_at hl 1 rfl) ?_
                    refine lv_icmp_ne (tgt := 179) hx hb dX7_findNeighbour_168 (by decide) (fun c0 => ?_) (fun c0 => ?_)
                    · have hF := if_f hF c0
                      refine lv_lconst (v := 0) hx hb dX7_findNeighbour_179 (by decide) ?_
                      refine lv_goto (tgt := 220) hx hb dX7_findNeighbour_180 (by decide) ?_
                      exact hk220 (0 : Int64) H locs ls hP hD hS (lv_sub hl [0, 1, 2, 3, 4] rfl) hF
                    · have hF := if_t hF c0
                      refine lv_aload_n hx hb dX7_findNeighbour_171 rfl (lv_at hl 0 rfl) ?_
                      refine va_get (D := (dC, dI)) (ci := 5) (v := .int prime) (C := RX7) (T := TX7) (N := 25) hx hb hts hinX7 hown hK hP 0 rfl rfl 2 (by decide) hf_13 (fun _ h9 => h9) rfl dX7_findNeighbour_172 ?_
                      refine lv_i2l (v := prime.toInt64) hx hb dX7_findNeighbour_175 rfl ?_
                      refine lv_goto (tgt := 220) hx hb dX7_findNeighbour_176 (by decide) ?_
                      exact hk220 (prime.toInt64) H locs ls hP hD hS (lv_sub hl [0, 1, 2, 3, 4] rfl) hF
            exact hL153 fu (0 : Int32) makers_28 H locs ls hP hD hS (lv_sub hl [1, 2, 3, 4, 0] rfl) hF
      exact hL144 fu (0 : Int32) makers H locs ls hP hD hS (lv_sub hl [1, 2, 3, 0] rfl) hF
    clear e_k141
    have hL115 : ∀ n : Nat, ∀ (x3_22 : Int64) (H : Heap) (locs : List Loc) (ls : Array Slot), va_P (dC, dI) vwCl (mW cI cJ h a forms prime turns lineT_1 lineU_2 kinds upper lower numbers q base least table rows lists listSize tried other line_3 makers touches_21 made kindForm kindTurns kindWays) H → va_D A (mW cI cJ h a forms prime turns lineT_1 lineU_2 kinds upper lower numbers q base least table rows lists listSize tried other line_3 makers touches_21 made kindForm kindTurns kindWays) → va_S A s.heap H locs → lv_has ls 10 [(0, .ref h), (2, .int x2_20), (3, .long x3_22)] → fX7_findNeighbour_L115 x2_20 touches_21 prime k141 n x3_22 = some (o_turns, o_lineT, o_lineU, o_q, o_base, o_least, o_table, o_rows, o_lists, o_listSize, o_tried, o_line, o_makers, o_touches, o_made) → W p l e rmX7_findNeighbour s m ([.ref h, .int p0] : List Value).toArray below meth c H locs 0 0 Q (F0 m 115 ls []) := by
      intro n
      induction n with
      | zero => intro x3_22 H locs ls hP hD hS hl hF; rw [fX7_findNeighbour_L115] at hF; cases hF
      | succ n ih115 =>
        intro x3_22 H locs ls hP hD hS hl hF
        rw [fX7_findNeighbour_L115] at hF
        refine lv_lload_n hx hb dX7_findNeighbour_115 rfl (lv_at hl 2 rfl) ?_
        refine lv_aload_n hx hb dX7_findNeighbour_116 rfl (lv_at hl 0 rfl) ?_
        refine va_get (D := (dC, dI)) (ci := 5) (v := .ref (a 13)) (C := RX7) (T := TX7) (N := 25) hx hb hts hinX7 hown hK hP 0 rfl rfl 17 (by decide) hf_51 (fun _ h9 => h9) rfl dX7_findNeighbour_117 ?_
        refine lv_iload_n hx hb dX7_findNeighbour_120 rfl (lv_at hl 1 rfl) ?_
        obtain ⟨hi, hF⟩ := ck_of hF
        refine va_lald hx hb hK hP 13 1 rfl rfl hi dX7_findNeighbour_121 ?_
        refine lv_lmul hx hb dX7_findNeighbour_122 ?_
        refine lv_aload_n hx hb dX7_findNeighbour_123 rfl (lv_at hl 0 rfl) ?_
        refine va_get (D := (dC, dI)) (ci := 5) (v := .int prime) (C := RX7) (T := TX7) (N := 25) hx hb hts hinX7 hown hK hP 0 rfl rfl 2 (by decide) hf_13 (fun _ h9 => h9) rfl dX7_findNeighbour_124 ?_
        refine lv_i2l (v := prime.toInt64) hx hb dX7_findNeighbour_127 rfl ?_
        obtain ⟨v_23, e_v_23, hF⟩ := nm_ex hF
        rw [← e_v_23]
        refine lv_topl (fun v_24 e_v_24 => ?_)
        have hF := nm_at hF e_v_24
        obtain ⟨hz, hF⟩ := ck_of hF
        refine lv_lrem hx hb dX7_findNeighbour_128 hz ?_
        refine lv_lconst (v := 1) hx hb dX7_findNeighbour_129 (by decide) ?_
        refine W.lcmp hx hb dX7_findNeighbour_130 ?_
        refine lv_if_eq (tgt := 141) hx hb dX7_findNeighbour_131 (by decide) (fun c0 => ?_) (fun c0 => ?_)
        · have c0 := (lg_cmp_eq _ _).mp c0
          have hF := if_t hF c0
          exact hk141 x3_22 H locs ls hP hD hS (lv_sub hl [0, 1, 2] rfl) hF
        · have c0 := (not_congr (lg_cmp_eq _ _)).mp c0
          have hF := if_f hF c0
          refine lv_lload_n hx hb dX7_findNeighbour_134 rfl (lv_at hl 2 rfl) ?_
          refine lv_lconst (v := 1) hx hb dX7_findNeighbour_135 (by decide) ?_
          refine lv_ladd hx hb dX7_findNeighbour_136 ?_
          refine lv_topl (fun x3_25 e_x3_25 => ?_)
          have hF := nm_at hF e_x3_25
          refine lv_lstore_n (lv' := [(3, .long x3_25), (0, .ref h), (2, .int x2_20)]) hx hb dX7_findNeighbour_137 rfl hl (by decide) rfl (fun ls hl => ?_)
          refine lv_goto (tgt := 115) hx hb dX7_findNeighbour_138 (by decide) ?_
          exact ih115 x3_25 H locs ls hP hD hS (lv_sub hl [1, 2, 0] rfl) hF
    exact hL115 fu (1 : Int64) H locs ls hP hD hS (lv_sub hl [1, 2, 0] rfl) hF
  clear e_k113
  have hL9 : ∀ n : Nat, ∀ (x2_4 : Int32) (x3_5 : Int32) (touches_6 : Nat → Int64) (H : Heap) (locs : List Loc) (ls : Array Slot), va_P (dC, dI) vwCl (mW cI cJ h a forms prime turns lineT_1 lineU_2 kinds upper lower numbers q base least table rows lists listSize tried other line_3 makers touches_6 made kindForm kindTurns kindWays) H → va_D A (mW cI cJ h a forms prime turns lineT_1 lineU_2 kinds upper lower numbers q base least table rows lists listSize tried other line_3 makers touches_6 made kindForm kindTurns kindWays) → va_S A s.heap H locs → lv_has ls 10 [(0, .ref h), (2, .int x2_4), (3, .int x3_5)] → fX7_findNeighbour_L9 k113 prime lineT_1 lineU_2 line_3 q n x2_4 x3_5 touches_6 = some (o_turns, o_lineT, o_lineU, o_q, o_base, o_least, o_table, o_rows, o_lists, o_listSize, o_tried, o_line, o_makers, o_touches, o_made) → W p l e rmX7_findNeighbour s m ([.ref h, .int p0] : List Value).toArray below meth c H locs 0 0 Q (F0 m 9 ls []) := by
    intro n
    induction n with
    | zero => intro x2_4 x3_5 touches_6 H locs ls hP hD hS hl hF; rw [fX7_findNeighbour_L9] at hF; cases hF
    | succ n ih9 =>
      intro x2_4 x3_5 touches_6 H locs ls hP hD hS hl hF
      rw [fX7_findNeighbour_L9] at hF
      refine lv_iload_n hx hb dX7_findNeighbour_9 rfl (lv_at hl 2 rfl) ?_
      refine lv_iconst (v := 3) hx hb dX7_findNeighbour_10 (by decide) ?_
      refine lv_icmp_ge (tgt := 113) hx hb dX7_findNeighbour_11 (by decide) (fun c0 => ?_) (fun c0 => ?_)
      · have hF := if_t hF c0
        exact hk113 x2_4 touches_6 H locs ls hP hD hS (lv_sub hl [0, 1] rfl) hF
      · have hF := if_f hF c0
        refine lv_aload_n hx hb dX7_findNeighbour_14 rfl (lv_at hl 0 rfl) ?_
        refine lv_aload_n hx hb dX7_findNeighbour_15 rfl (lv_at hl 0 rfl) ?_
        refine lv_iconst (v := 0) hx hb dX7_findNeighbour_16 (by decide) ?_
        obtain ⟨r_7, hc, hF⟩ := bd1_of hF
        refine rc_l (va_runV (As := [.int (0 : Int32)]) (rest := [.ref h]) ⟨hx, hb, hml, hown, hts⟩ (c_X7_lined l dC dI cI cJ h a forms prime turns lineT_1 lineU_2 kinds upper lower numbers q base least table rows lists listSize tried other line_3 makers touches_6 made kindForm kindTurns kindWays (0 : Int32) r_7 hc) (cwV 1 hts g_X7_findNeighbour_X7_lined rfl rfl rfl (by decide +kernel) ⟨Nat.le_of_ble_eq_true rfl, Nat.le_of_ble_eq_true rfl⟩) ⟨rPc_blind, va_recv hK hP (ci := 5) (q0 := 0) rfl rfl, rPc_at hK hP⟩ rfl rfl hl.1 rfl (lv_room (Nat.le_of_ble_eq_true rfl)) dX7_findNeighbour_17 ⟨Nat.zero_le _, Nat.zero_le _⟩) ?_
        refine lv_aload_n hx hb dX7_findNeighbour_20 rfl (lv_at hl 0 rfl) ?_
        refine lv_iconst (v := 1) hx hb dX7_findNeighbour_21 (by decide) ?_
        obtain ⟨r_8, hc, hF⟩ := bd1_of hF
        refine rc_l (va_runV (As := [.int (1 : Int32)]) (rest := [.long r_7, .ref h]) ⟨hx, hb, hml, hown, hts⟩ (c_X7_lined l dC dI cI cJ h a forms prime turns lineT_1 lineU_2 kinds upper lower numbers q base least table rows lists listSize tried other line_3 makers touches_6 made kindForm kindTurns kindWays (1 : Int32) r_8 hc) (cwV 1 hts g_X7_findNeighbour_X7_lined rfl rfl rfl (by decide +kernel) ⟨Nat.le_of_ble_eq_true rfl, Nat.le_of_ble_eq_true rfl⟩) ⟨rPc_blind, va_recv hK hP (ci := 5) (q0 := 0) rfl rfl, rPc_at hK hP⟩ rfl rfl hl.1 rfl (lv_room (Nat.le_of_ble_eq_true rfl)) dX7_findNeighbour_22 ⟨Nat.zero_le _, Nat.zero_le _⟩) ?_
        refine lv_aload_n hx hb dX7_findNeighbour_25 rfl (lv_at hl 0 rfl) ?_
        refine lv_iconst (v := 2) hx hb dX7_findNeighbour_26 (by decide) ?_
        obtain ⟨r_9, hc, hF⟩ := bd1_of hF
        refine rc_l (va_runV (As := [.int (2 : Int32)]) (rest := [.long r_8, .long r_7, .ref h]) ⟨hx, hb, hml, hown, hts⟩ (c_X7_lined l dC dI cI cJ h a forms prime turns lineT_1 lineU_2 kinds upper lower numbers q base least table rows lists listSize tried other line_3 makers touches_6 made kindForm kindTurns kindWays (2 : Int32) r_9 hc) (cwV 1 hts g_X7_findNeighbour_X7_lined rfl rfl rfl (by decide +kernel) ⟨Nat.le_of_ble_eq_true rfl, Nat.le_of_ble_eq_true rfl⟩) ⟨rPc_blind, va_recv hK hP (ci := 5) (q0 := 0) rfl rfl, rPc_at hK hP⟩ rfl rfl hl.1 rfl (lv_room (Nat.le_of_ble_eq_true rfl)) dX7_findNeighbour_27 ⟨Nat.zero_le _, Nat.zero_le _⟩) ?_
        refine lv_iload_n hx hb dX7_findNeighbour_30 rfl (lv_at hl 2 rfl) ?_
        obtain ⟨k39, e_k39, hF⟩ := nm_ex hF
        have hk39 : ∀ (s_10 : Int64) (H : Heap) (locs : List Loc) (ls : Array Slot), va_P (dC, dI) vwCl (mW cI cJ h a forms prime turns lineT_1 lineU_2 kinds upper lower numbers q base least table rows lists listSize tried other line_3 makers touches_6 made kindForm kindTurns kindWays) H → va_D A (mW cI cJ h a forms prime turns lineT_1 lineU_2 kinds upper lower numbers q base least table rows lists listSize tried other line_3 makers touches_6 made kindForm kindTurns kindWays) → va_S A s.heap H locs → lv_has ls 10 [(0, .ref h), (2, .int x2_4), (3, .int x3_5)] → k39 s_10 = some (o_turns, o_lineT, o_lineU, o_q, o_base, o_least, o_table, o_rows, o_lists, o_listSize, o_tried, o_line, o_makers, o_touches, o_made) → W p l e rmX7_findNeighbour s m ([.ref h, .int p0] : List Value).toArray below meth c H locs 0 0 Q (F0 m 39 ls [.long s_10, .long r_9, .long r_8, .long r_7, .ref h]) := by
          intro s_10 H locs ls hP hD hS hl hF
          have hF := ka1 e_k39 hF
          refine lv_iload_n hx hb dX7_findNeighbour_39 rfl (lv_at hl 2 rfl) ?_
          refine lv_iconst (v := 1) hx hb dX7_findNeighbour_40 (by decide) ?_
          obtain ⟨k49, e_k49, hF⟩ := nm_ex hF
          have hk49 : ∀ (s_11 : Int64) (H : Heap) (locs : List Loc) (ls : Array Slot), va_P (dC, dI) vwCl (mW cI cJ h a forms prime turns lineT_1 lineU_2 kinds upper lower numbers q base least table rows lists listSize tried other line_3 makers touches_6 made kindForm kindTurns kindWays) H → va_D A (mW cI cJ h a forms prime turns lineT_1 lineU_2 kinds upper lower numbers q base least table rows lists listSize tried other line_3 makers touches_6 made kindForm kindTurns kindWays) → va_S A s.heap H locs → lv_has ls 10 [(0, .ref h), (2, .int x2_4), (3, .int x3_5)] → k49 s_11 = some (o_turns, o_lineT, o_lineU, o_q, o_base, o_least, o_table, o_rows, o_lists, o_listSize, o_tried, o_line, o_makers, o_touches, o_made) → W p l e rmX7_findNeighbour s m ([.ref h, .int p0] : List Value).toArray below meth c H locs 0 0 Q (F0 m 49 ls [.long s_11, .long s_10, .long r_9, .long r_8, .long r_7, .ref h]) := by
            intro s_11 H locs ls hP hD hS hl hF
            have hF := ka1 e_k49 hF
            refine lv_iload_n hx hb dX7_findNeighbour_49 rfl (lv_at hl 2 rfl) ?_
            refine lv_iconst (v := 2) hx hb dX7_findNeighbour_50 (by decide) ?_
            obtain ⟨k59, e_k59, hF⟩ := nm_ex hF
            have hk59 : ∀ (s_12 : Int64) (H : Heap) (locs : List Loc) (ls : Array Slot), va_P (dC, dI) vwCl (mW cI cJ h a forms prime turns lineT_1 lineU_2 kinds upper lower numbers q base least table rows lists listSize tried other line_3 makers touches_6 made kindForm kindTurns kindWays) H → va_D A (mW cI cJ h a forms prime turns lineT_1 lineU_2 kinds upper lower numbers q base least table rows lists listSize tried other line_3 makers touches_6 made kindForm kindTurns kindWays) → va_S A s.heap H locs → lv_has ls 10 [(0, .ref h), (2, .int x2_4), (3, .int x3_5)] → k59 s_12 = some (o_turns, o_lineT, o_lineU, o_q, o_base, o_least, o_table, o_rows, o_lists, o_listSize, o_tried, o_line, o_makers, o_touches, o_made) → W p l e rmX7_findNeighbour s m ([.ref h, .int p0] : List Value).toArray below meth c H locs 0 0 Q (F0 m 59 ls [.long s_12, .long s_11, .long s_10, .long r_9, .long r_8, .long r_7, .ref h]) := by
              intro s_12 H locs ls hP hD hS hl hF
              have hF := ka1 e_k59 hF
              obtain ⟨r_13, hc, hF⟩ := bd1_of hF
              refine rc_l (va_runV (As := [.long r_7, .long r_8, .long r_9, .long s_10, .long s_11, .long s_12]) (rest := []) ⟨hx, hb, hml, hown, hts⟩ (c_X7_touchOf l dC dI cI cJ h a forms prime turns lineT_1 lineU_2 kinds upper lower numbers q base least table rows lists listSize tried other line_3 makers touches_6 made kindForm kindTurns kindWays r_7 r_8 r_9 s_10 s_11 s_12 r_13 hc) (cwV 6 hts g_X7_findNeighbour_X7_touchOf rfl rfl rfl (by decide +kernel) ⟨Nat.le_of_ble_eq_true rfl, Nat.le_of_ble_eq_true rfl⟩) ⟨rPc_blind, va_recv hK hP (ci := 5) (q0 := 0) rfl rfl, rPc_at hK hP⟩ rfl rfl hl.1 rfl (lv_room (Nat.le_of_ble_eq_true rfl)) dX7_findNeighbour_59 ⟨Nat.zero_le _, Nat.zero_le _⟩) ?_
              refine lv_lstore (lv' := [(4, .long r_13), (0, .ref h), (2, .int x2_4), (3, .int x3_5)]) hx hb dX7_findNeighbour_62 hl (by decide) rfl (fun ls hl => ?_)
              refine lv_aload_n hx hb dX7_findNeighbour_64 rfl (lv_at hl 1 rfl) ?_
              refine va_get (D := (dC, dI)) (ci := 5) (v := .ref (a 13)) (C := RX7) (T := TX7) (N := 25) hx hb hts hinX7 hown hK hP 0 rfl rfl 17 (by decide) hf_51 (fun _ h9 => h9) rfl dX7_findNeighbour_65 ?_
              refine lv_iload_n hx hb dX7_findNeighbour_68 rfl (lv_at hl 3 rfl) ?_
              refine lv_lload hx hb dX7_findNeighbour_69 (lv_at hl 0 rfl) ?_
              refine lv_aload_n hx hb dX7_findNeighbour_71 rfl (lv_at hl 1 rfl) ?_
              refine va_get (D := (dC, dI)) (ci := 5) (v := .int prime) (C := RX7) (T := TX7) (N := 25) hx hb hts hinX7 hown hK hP 0 rfl rfl 2 (by decide) hf_13 (fun _ h9 => h9) rfl dX7_findNeighbour_72 ?_
              refine lv_i2l (v := prime.toInt64) hx hb dX7_findNeighbour_75 rfl ?_
              refine lv_topl (fun v_14 e_v_14 => ?_)
              have hF := nm_at hF e_v_14
              obtain ⟨hz, hF⟩ := ck_of hF
              refine lv_lrem hx hb dX7_findNeighbour_76 hz ?_
              refine lv_aload_n hx hb dX7_findNeighbour_77 rfl (lv_at hl 1 rfl) ?_
              refine va_get (D := (dC, dI)) (ci := 5) (v := .int prime) (C := RX7) (T := TX7) (N := 25) hx hb hts hinX7 hown hK hP 0 rfl rfl 2 (by decide) hf_13 (fun _ h9 => h9) rfl dX7_findNeighbour_78 ?_
              refine lv_i2l (v := prime.toInt64) hx hb dX7_findNeighbour_81 rfl ?_
              refine lv_ladd hx hb dX7_findNeighbour_82 ?_
              refine lv_aload_n hx hb dX7_findNeighbour_83 rfl (lv_at hl 1 rfl) ?_
              refine va_get (D := (dC, dI)) (ci := 5) (v := .int prime) (C := RX7) (T := TX7) (N := 25) hx hb hts hinX7 hown hK hP 0 rfl rfl 2 (by decide) hf_13 (fun _ h9 => h9) rfl dX7_findNeighbour_84 ?_
              refine lv_i2l (v := prime.toInt64) hx hb dX7_findNeighbour_87 rfl ?_
              obtain ⟨v_15, e_v_15, hF⟩ := nm_ex hF
              rw [← e_v_15]
              refine lv_topl (fun v_16 e_v_16 => ?_)
              have hF := nm_at hF e_v_16
              obtain ⟨hz, hF⟩ := ck_of hF
              refine lv_lrem hx hb dX7_findNeighbour_88 hz ?_
              obtain ⟨hi, hF⟩ := ck_of hF
              obtain ⟨touches_17, e_touches_17, hF⟩ := nm_ex hF
              refine kc_last (j := x3_5.toNatClampNeg) (g := touches_17) hx hb hK hP hD hS 13 1 rfl rfl rfl hi dX7_findNeighbour_89 e_touches_17 (fun H locs hP hD hS => ?_)
              have hP : va_P (dC, dI) vwCl (mW cI cJ h a forms prime turns lineT_1 lineU_2 kinds upper lower numbers q base least table rows lists listSize tried other line_3 makers touches_17 made kindForm kindTurns kindWays) H := hP
              have hD : va_D A (mW cI cJ h a forms prime turns lineT_1 lineU_2 kinds upper lower numbers q base least table rows lists listSize tried other line_3 makers touches_17 made kindForm kindTurns kindWays) := hD
              refine lv_aload_n hx hb dX7_findNeighbour_90 rfl (lv_at hl 1 rfl) ?_
              refine va_get (D := (dC, dI)) (ci := 5) (v := .ref (a 13)) (C := RX7) (T := TX7) (N := 25) hx hb hts hinX7 hown hK hP 0 rfl rfl 17 (by decide) hf_51 (fun _ h9 => h9) rfl dX7_findNeighbour_91 ?_
              refine lv_iload_n hx hb dX7_findNeighbour_94 rfl (lv_at hl 3 rfl) ?_
              obtain ⟨hi, hF⟩ := ck_of hF
              refine va_lald hx hb hK hP 13 1 rfl rfl hi dX7_findNeighbour_95 ?_
              refine lv_lconst (v := 0) hx hb dX7_findNeighbour_96 (by decide) ?_
              refine W.lcmp hx hb dX7_findNeighbour_97 ?_
              obtain ⟨k106, e_k106, hF⟩ := nm_ex hF
              have hk106 : ∀ (s_18 : Int32) (H : Heap) (locs : List Loc) (ls : Array Slot), va_P (dC, dI) vwCl (mW cI cJ h a forms prime turns lineT_1 lineU_2 kinds upper lower numbers q base least table rows lists listSize tried other line_3 makers touches_17 made kindForm kindTurns kindWays) H → va_D A (mW cI cJ h a forms prime turns lineT_1 lineU_2 kinds upper lower numbers q base least table rows lists listSize tried other line_3 makers touches_17 made kindForm kindTurns kindWays) → va_S A s.heap H locs → lv_has ls 10 [(0, .ref h), (3, .int x3_5)] → k106 s_18 = some (o_turns, o_lineT, o_lineU, o_q, o_base, o_least, o_table, o_rows, o_lists, o_listSize, o_tried, o_line, o_makers, o_touches, o_made) → W p l e rmX7_findNeighbour s m ([.ref h, .int p0] : List Value).toArray below meth c H locs 0 0 Q (F0 m 106 ls [.int s_18]) := by
                intro s_18 H locs ls hP hD hS hl hF
                have hF := ka1 e_k106 hF
                refine lv_istore_n (lv' := [(2, .int s_18), (0, .ref h), (3, .int x3_5)]) hx hb dX7_findNeighbour_106 rfl hl (by decide) rfl (fun ls hl => ?_)
                obtain ⟨x3_19, e_x3_19, hF⟩ := nm_ex hF
                refine lv_iinc (v := x3_19) (lv' := [(3, .int x3_19), (2, .int s_18), (0, .ref h)]) hx hb dX7_findNeighbour_107 hl (k := 2) rfl (by rw [e_x3_19]; rfl) (by decide) rfl (fun ls hl => ?_)
                refine lv_goto (tgt := 9) hx hb dX7_findNeighbour_110 (by decide) ?_
                exact ih9 s_18 x3_19 touches_17 H locs ls hP hD hS (lv_sub hl [2, 1, 0] rfl) hF
              clear e_k106
              refine lv_if_eq (tgt := 105) hx hb dX7_findNeighbour_98 (by decide) (fun c0 => ?_) (fun c0 => ?_)
              · have c0 := (lg_cmp_eq _ _).mp c0
                have hF := if_t hF c0
                refine lv_iload_n hx hb dX7_findNeighbour_105 rfl (lv_at hl 2 rfl) ?_
                exact hk106 x2_4 H locs ls hP hD hS (lv_sub hl [1, 3] rfl) hF
              · have c0 := (not_congr (lg_cmp_eq _ _)).mp c0
                have hF := if_f hF c0
                refine lv_iload_n hx hb dX7_findNeighbour_101 rfl (lv_at hl 3 rfl) ?_
                refine lv_goto (tgt := 106) hx hb dX7_findNeighbour_102 (by decide) ?_
                exact hk106 x3_5 H locs ls hP hD hS (lv_sub hl [1, 3] rfl) hF
            clear e_k59
            refine lv_icmp_ne (tgt := 58) hx hb dX7_findNeighbour_51 (by decide) (fun c0 => ?_) (fun c0 => ?_)
            · have hF := if_f hF c0
              refine lv_lconst (v := 0) hx hb dX7_findNeighbour_58 (by decide) ?_
              exact hk59 (0 : Int64) H locs ls hP hD hS (lv_sub hl [0, 1, 2] rfl) hF
            · have hF := if_t hF c0
              refine lv_lconst (v := 1) hx hb dX7_findNeighbour_54 (by decide) ?_
              refine lv_goto (tgt := 59) hx hb dX7_findNeighbour_55 (by decide) ?_
              exact hk59 (1 : Int64) H locs ls hP hD hS (lv_sub hl [0, 1, 2] rfl) hF
          clear e_k49
          refine lv_icmp_ne (tgt := 48) hx hb dX7_findNeighbour_41 (by decide) (fun c0 => ?_) (fun c0 => ?_)
          · have hF := if_f hF c0
            refine lv_lconst (v := 0) hx hb dX7_findNeighbour_48 (by decide) ?_
            exact hk49 (0 : Int64) H locs ls hP hD hS (lv_sub hl [0, 1, 2] rfl) hF
          · have hF := if_t hF c0
            refine lv_lconst (v := 1) hx hb dX7_findNeighbour_44 (by decide) ?_
            refine lv_goto (tgt := 49) hx hb dX7_findNeighbour_45 (by decide) ?_
            exact hk49 (1 : Int64) H locs ls hP hD hS (lv_sub hl [0, 1, 2] rfl) hF
        clear e_k39
        refine lv_if_ne (tgt := 38) hx hb dX7_findNeighbour_31 (by decide) (fun c0 => ?_) (fun c0 => ?_)
        · have hF := if_f hF c0
          refine lv_lconst (v := 0) hx hb dX7_findNeighbour_38 (by decide) ?_
          exact hk39 (0 : Int64) H locs ls hP hD hS (lv_sub hl [0, 1, 2] rfl) hF
        · have hF := if_t hF c0
          refine lv_lconst (v := 1) hx hb dX7_findNeighbour_34 (by decide) ?_
          refine lv_goto (tgt := 39) hx hb dX7_findNeighbour_35 (by decide) ?_
          exact hk39 (1 : Int64) H locs ls hP hD hS (lv_sub hl [0, 1, 2] rfl) hF
  exact hL9 fu (-1 : Int32) (0 : Int32) touches H locs ls hP hD hS (lv_sub hl [2, 1, 0] rfl) hF
