def fX7_shorten_L41 (k88 : (Int32) → (Nat → Int64) → (Nat → Int64) → Option ((Nat → Int64) × (Nat → Int64))) (fu : Nat) : Nat → (Int32) → (Int32) → (Nat → Int64) → (Nat → Int64) → Option ((Nat → Int64) × (Nat → Int64))
  | 0, _, _, _, _ => none
  | n + 1, x1_10, x2_11, q_12, base_13 => if (9 : Int32) ≤ x2_11 then ((k88 x1_10 q_12 base_13)) else (nm (x2_11 / (3 : Int32)) (fun (x3_14 : Int32) => nm (x2_11 - x2_11 / (3 : Int32) * (3 : Int32)) (fun (x4_15 : Int32) => nm (fun (x1_20 : Int32) (q_21 : Nat → Int64) (base_22 : Nat → Int64) => nm (x2_11 + (1 : Int32)) (fun (x2_23 : Int32) => (fX7_shorten_L41 k88 fu n x1_20 x2_23 q_21 base_22))) (fun (k82 : (Int32) → (Nat → Int64) → (Nat → Int64) → Option ((Nat → Int64) × (Nat → Int64))) => if x3_14 = x4_15 then ((k82 x1_10 q_12 base_13)) else (bd3 (fX7_take fu q_12 base_13 x3_14 x4_15) (fun (r_16 : Int32) (q_17 : Nat → Int64) (base_18 : Nat → Int64) => nm (fun (s_19 : Int32) => (k82 s_19 q_17 base_18)) (fun (k81 : (Int32) → Option ((Nat → Int64) × (Nat → Int64))) => nm ((k81 (1 : Int32))) (fun (k76 : Option ((Nat → Int64) × (Nat → Int64))) => if r_16 = 0 then (if x1_10 = 0 then ((k81 (0 : Int32))) else ((k76))) else ((k76))))))))))
def fX7_shorten_L33 (fu : Nat) : Nat → (Int32) → (Nat → Int64) → (Nat → Int64) → Option ((Nat → Int64) × (Nat → Int64))
  | 0, _, _, _ => none
  | n + 1, x1_7, q_8, base_9 => if x1_7 = 0 then (some (q_8, base_9)) else (nm (fun (x1_24 : Int32) (q_25 : Nat → Int64) (base_26 : Nat → Int64) => (fX7_shorten_L33 fu n x1_24 q_25 base_26)) (fun (k88 : (Int32) → (Nat → Int64) → (Nat → Int64) → Option ((Nat → Int64) × (Nat → Int64))) => (fX7_shorten_L41 k88 fu fu (0 : Int32) (0 : Int32) q_8 base_9)))
def fX7_shorten_L2 (k31 : (Nat → Int64) → Option ((Nat → Int64) × (Nat → Int64))) : Nat → (Int32) → (Nat → Int64) → Option ((Nat → Int64) × (Nat → Int64))
  | 0, _, _ => none
  | n + 1, x1_1, base_2 => if (9 : Int32) ≤ x1_1 then ((k31 base_2)) else (nm (fun (s_3 : Int64) => if okI x1_1 9 then nm (vp_updL base_2 x1_1.toNatClampNeg s_3) (fun (base_4 : Nat → Int64) => nm (x1_1 + (1 : Int32)) (fun (x1_5 : Int32) => (fX7_shorten_L2 k31 n x1_5 base_4))) else none) (fun (k24 : (Int64) → Option ((Nat → Int64) × (Nat → Int64))) => if (x1_1 - x1_1 / (4 : Int32) * (4 : Int32)) = 0 then ((k24 (1 : Int64))) else ((k24 (0 : Int64)))))
def fX7_shorten (fu : Nat) (q : Nat → Int64) (base : Nat → Int64)  : Option ((Nat → Int64) × (Nat → Int64)) :=
  nm (fun (base_6 : Nat → Int64) => (fX7_shorten_L33 fu fu (1 : Int32) q base_6)) (fun (k31 : (Nat → Int64) → Option ((Nat → Int64) × (Nat → Int64))) => (fX7_shorten_L2 k31 fu (0 : Int32) base))
def lkX7_shorten : List Cond := [.fieldLink RX7 21 "KinFormsModel" "base" "[J"]
def vX7_shorten : List Cond := .code yX7_shorten cX7_shorten 5 none :: (lkX7_shorten ++ (wsX70 ++ (wsV RX7 88 RX7 yX7_take vX7_take ++ ([]))))
theorem q_X7_shorten : ∀ w ∈ vX7_shorten, goodWord w = true := gd_cons rfl (gd_app (by decide +kernel) (gd_app q_wsX70 (gd_app (gd_V q_X7_take) gd_nil)))
theorem g_X7_shorten_X7_take : GoodIn vX7_shorten (wsV RX7 88 RX7 yX7_take vX7_take) := gi_of (fun w h => List.mem_cons_of_mem _ (List.mem_append_right _ (List.mem_append_right _ (List.mem_append_left _ h)))) (gd_V q_X7_take)
abbrev rmX7_shorten : Room := { frames := 2, cells := 0, slots := 0, locals := 55 }
set_option maxHeartbeats 4000000 in
set_option maxRecDepth 100000 in
theorem c_X7_shorten (l : Launch) (dC : Nat → ClassId) (dI : Nat → Nat → Nat) (cI : ClassId) (cJ : ClassId) (h : Nat) (a : Nat → Nat) (fu : Nat) (sz : Nat) (forms : Int32) (prime : Int32) (turns : Int32) (lineT : Int32) (lineU : Int32) (kinds : Int32) (upper : Int64) (lower : Int64) (numbers : Nat → Int32) (q : Nat → Int64) (base : Nat → Int64) (least : Nat → Int64) (table : Nat → Int64) (rows : Nat → Int64) (lists : Nat → Int64) (listSize : Nat → Int32) (tried : Nat → Int64) (other : Nat → Int64) (line : Nat → Int64) (makers : Nat → Int64) (touches : Nat → Int64) (made : Nat → Int64) (kindForm : Nat → Int64) (kindTurns : Nat → Int32) (kindWays : Nat → Int32)  (o_q : Nat → Int64) (o_base : Nat → Int64) (hF : fX7_shorten fu q base = some (o_q, o_base)) : Met l yX7_shorten vX7_shorten rmX7_shorten (va_Pc [.ref h] (mPc (dC, dI) vwCl (mW cI cJ h a forms prime turns lineT lineU kinds upper lower numbers q base least table rows lists listSize tried other line makers touches made kindForm kindTurns kindWays) [(cI, .int), (cJ, .long)] sz)) (va_Qv (fun (_ : Unit) => True) (mPo (dC, dI) vwCl (mW cI cJ h a forms prime turns lineT lineU kinds upper lower numbers o_q o_base least table rows lists listSize tried other line makers touches made kindForm kindTurns kindWays) [(cI, .int), (cJ, .long)] (va_A (mW cI cJ h a forms prime turns lineT lineU kinds upper lower numbers q base least table rows lists listSize tried other line makers touches made kindForm kindTurns kindWays) sz)) (va_A (mW cI cJ h a forms prime turns lineT lineU kinds upper lower numbers q base least table rows lists listSize tried other line makers touches made kindForm kindTurns kindWays) sz)) 0 0 (va_A (mW cI cJ h a forms prime turns lineT lineU kinds upper lower numbers q base least table rows lists listSize tried other line makers touches made kindForm kindTurns kindWays) sz) := by
  refine Met.ofW (cc := cX7_shorten) (maxL := 5) (ret := none) (by decide) rfl ?_
  intro p e s m args below meth c s₁ B hml hv
  obtain ⟨rfl, hsz, hP, hK, hD0⟩ := hv
  have hx := B.exec
  have hb := B.bytes
  have hr := B.returns
  have hts := atoms_spec (ws := vX7_shorten) B.pre
  have hlk : ∀ w ∈ lkX7_shorten, w.before _ s = true := fun w h => hts w (List.mem_cons_of_mem _ (List.mem_append_left _ h))
  have hown : s.vm.findClass RX7 = some m.cls := findClass_of_methodNamed B.named
  have hlocks := B.notSynchronized
  subst hsz
  have hD := hD0.self (sz := s.heap.size)
  generalize hAe : va_A (mW cI cJ h a forms prime turns lineT lineU kinds upper lower numbers q base least table rows lists listSize tried other line makers touches made kindForm kindTurns kindWays) s.heap.size = A at hD ⊢
  have hA : ∀ q : Nat, s.heap.size ≤ q → A q := fun q h => by rw [← hAe]; exact Or.inr h
  have hS : va_S A s.heap s.heap [] := va_S.rf
  have hinX7 : ∀ w ∈ wsX70, w ∈ vX7_shorten := fun w h => List.mem_cons_of_mem _ (List.mem_append_right _ (List.mem_append_left _ h))
  have hf_21 := hlk (.fieldLink RX7 21 "KinFormsModel" "base" "[J") (by decide +kernel)
  have hl := lv_entry ([.ref h] : List Value) (n := 5) (Nat.le_of_ble_eq_true rfl)
  rw [lg_entry_eq]
  generalize (lg_sl ([.ref h] : List Value) ++ List.replicate (5 - (lg_sl ([.ref h] : List Value)).length) Slot.unset).toArray = ls at hl ⊢
  have hl : lv_has ls 5 [(0, .ref h)] := hl
  unfold fX7_shorten at hF
  refine W_Q (fun Q hQ => ?_)
  have hP : va_P (dC, dI) vwCl (mW cI cJ h a forms prime turns lineT lineU kinds upper lower numbers q base least table rows lists listSize tried other line makers touches made kindForm kindTurns kindWays) s.heap := hP
  refine W_HL (fun H locs eH eL => ?_)
  rw [← eH] at hP
  have hS : va_S A s.heap H locs := by rw [eH, eL]; exact hS
  refine lv_iconst (v := 0) hx hb dX7_shorten_0 (by decide) ?_
  refine lv_istore_n (lv' := [(1, .int (0 : Int32)), (0, .ref h)]) hx hb dX7_shorten_1 rfl hl (by decide) rfl (fun ls hl => ?_)
  obtain ⟨k31, e_k31, hF⟩ := nm_ex hF
  have hk31 : ∀ (base_6 : Nat → Int64) (H : Heap) (locs : List Loc) (ls : Array Slot), va_P (dC, dI) vwCl (mW cI cJ h a forms prime turns lineT lineU kinds upper lower numbers q base_6 least table rows lists listSize tried other line makers touches made kindForm kindTurns kindWays) H → va_D A (mW cI cJ h a forms prime turns lineT lineU kinds upper lower numbers q base_6 least table rows lists listSize tried other line makers touches made kindForm kindTurns kindWays) → va_S A s.heap H locs → lv_has ls 5 [(0, .ref h)] → k31 base_6 = some (o_q, o_base) → W p l e rmX7_shorten s m ([.ref h] : List Value).toArray below meth c H locs 0 0 Q (F0 m 31 ls []) := by
    intro base_6 H locs ls hP hD hS hl hF
    have hF := ka1 e_k31 hF
    refine lv_iconst (v := 1) hx hb dX7_shorten_31 (by decide) ?_
    refine lv_istore_n (lv' := [(1, .int (1 : Int32)), (0, .ref h)]) hx hb dX7_shorten_32 rfl hl (by decide) rfl (fun ls hl => ?_)
    have hL33 : ∀ n : Nat, ∀ (x1_7 : Int32) (q_8 : Nat → Int64) (base_9 : Nat → Int64) (H : Heap) (locs : List Loc) (ls : Array Slot), va_P (dC, dI) vwCl (mW cI cJ h a forms prime turns lineT lineU kinds upper lower numbers q_8 base_9 least table rows lists listSize tried other line makers touches made kindForm kindTurns kindWays) H → va_D A (mW cI cJ h a forms prime turns lineT lineU kinds upper lower numbers q_8 base_9 least table rows lists listSize tried other line makers touches made kindForm kindTurns kindWays) → va_S A s.heap H locs → lv_has ls 5 [(0, .ref h), (1, .int x1_7)] → fX7_shorten_L33 fu n x1_7 q_8 base_9 = some (o_q, o_base) → W p l e rmX7_shorten s m ([.ref h] : List Value).toArray below meth c H locs 0 0 Q (F0 m 33 ls []) := by
      intro n
      induction n with
      | zero => intro x1_7 q_8 base_9 H locs ls hP hD hS hl hF; rw [fX7_shorten_L33] at hF; cases hF
      | succ n ih33 =>
        intro x1_7 q_8 base_9 H locs ls hP hD hS hl hF
        rw [fX7_shorten_L33] at hF
        refine lv_iload_n hx hb dX7_shorten_33 rfl (lv_at hl 1 rfl) ?_
        refine lv_if_eq (tgt := 91) hx hb dX7_shorten_34 (by decide) (fun c0 => ?_) (fun c0 => ?_)
        · have hF := if_t hF c0
          obtain ⟨q0, q1⟩ := sm2 hF
          have hP : va_P (dC, dI) vwCl (mW cI cJ h a forms prime turns lineT lineU kinds upper lower numbers o_q o_base least table rows lists listSize tried other line makers touches made kindForm kindTurns kindWays) H := by rw [← q0, ← q1]; exact hP
          have hD : va_D A (mW cI cJ h a forms prime turns lineT lineU kinds upper lower numbers o_q o_base least table rows lists listSize tried other line makers touches made kindForm kindTurns kindWays) := by rw [← q0, ← q1]; exact hD
          refine W_Qe hQ ?_
          exact W.vret hx hb hr (fun t ht hW => ⟨⟨(), rfl, trivial, by rw [ht]; exact hP, va_K.moved hW.alike hK, hD⟩, hS.F ht⟩) hS.2.2 dX7_shorten_91
        · have hF := if_f hF c0
          refine lv_iconst (v := 0) hx hb dX7_shorten_37 (by decide) ?_
          refine lv_istore_n (lv' := [(1, .int (0 : Int32)), (0, .ref h)]) hx hb dX7_shorten_38 rfl hl (by decide) rfl (fun ls hl => ?_)
          refine lv_iconst (v := 0) hx hb dX7_shorten_39 (by decide) ?_
          refine lv_istore_n (lv' := [(2, .int (0 : Int32)), (1, .int (0 : Int32)), (0, .ref h)]) hx hb dX7_shorten_40 rfl hl (by decide) rfl (fun ls hl => ?_)
          obtain ⟨k88, e_k88, hF⟩ := nm_ex hF
          have hk88 : ∀ (x1_24 : Int32) (q_25 : Nat → Int64) (base_26 : Nat → Int64) (H : Heap) (locs : List Loc) (ls : Array Slot), va_P (dC, dI) vwCl (mW cI cJ h a forms prime turns lineT lineU kinds upper lower numbers q_25 base_26 least table rows lists listSize tried other line makers touches made kindForm kindTurns kindWays) H → va_D A (mW cI cJ h a forms prime turns lineT lineU kinds upper lower numbers q_25 base_26 least table rows lists listSize tried other line makers touches made kindForm kindTurns kindWays) → va_S A s.heap H locs → lv_has ls 5 [(0, .ref h), (1, .int x1_24)] → k88 x1_24 q_25 base_26 = some (o_q, o_base) → W p l e rmX7_shorten s m ([.ref h] : List Value).toArray below meth c H locs 0 0 Q (F0 m 88 ls []) := by
            intro x1_24 q_25 base_26 H locs ls hP hD hS hl hF
            have hF := ka3 e_k88 hF
            refine lv_goto (tgt := 33) hx hb dX7_shorten_88 (by decide) ?_
            exact ih33 x1_24 q_25 base_26 H locs ls hP hD hS (lv_sub hl [0, 1] rfl) hF
          clear e_k88
          have hL41 : ∀ n : Nat, ∀ (x1_10 : Int32) (x2_11 : Int32) (q_12 : Nat → Int64) (base_13 : Nat → Int64) (H : Heap) (locs : List Loc) (ls : Array Slot), va_P (dC, dI) vwCl (mW cI cJ h a forms prime turns lineT lineU kinds upper lower numbers q_12 base_13 least table rows lists listSize tried other line makers touches made kindForm kindTurns kindWays) H → va_D A (mW cI cJ h a forms prime turns lineT lineU kinds upper lower numbers q_12 base_13 least table rows lists listSize tried other line makers touches made kindForm kindTurns kindWays) → va_S A s.heap H locs → lv_has ls 5 [(0, .ref h), (1, .int x1_10), (2, .int x2_11)] → fX7_shorten_L41 k88 fu n x1_10 x2_11 q_12 base_13 = some (o_q, o_base) → W p l e rmX7_shorten s m ([.ref h] : List Value).toArray below meth c H locs 0 0 Q (F0 m 41 ls []) := by
            intro n
            induction n with
            | zero => intro x1_10 x2_11 q_12 base_13 H locs ls hP hD hS hl hF; rw [fX7_shorten_L41] at hF; cases hF
            | succ n ih41 =>
              intro x1_10 x2_11 q_12 base_13 H locs ls hP hD hS hl hF
              rw [fX7_shorten_L41] at hF
              refine lv_iload_n hx hb dX7_shorten_41 rfl (lv_at hl 2 rfl) ?_
              refine lv_bipush (v := (9)) hx hb dX7_shorten_42 (by decide) ?_
              refine lv_icmp_ge (tgt := 88) hx hb dX7_shorten_44 (by decide) (fun c0 => ?_) (fun c0 => ?_)
              · have hF := if_t hF c0
                exact hk88 x1_10 q_12 base_13 H locs ls hP hD hS (lv_sub hl [0, 1] rfl) hF
              · have hF := if_f hF c0
                refine lv_iload_n hx hb dX7_shorten_47 rfl (lv_at hl 2 rfl) ?_
                refine lv_iconst (v := 3) hx hb dX7_shorten_48 (by decide) ?_
                refine lv_idiv hx hb dX7_shorten_49 (by decide) ?_
                refine lv_topi (fun x3_14 e_x3_14 => ?_)
                have hF := nm_at hF e_x3_14
                refine lv_istore_n (lv' := [(3, .int x3_14), (0, .ref h), (1, .int x1_10), (2, .int x2_11)]) hx hb dX7_shorten_50 rfl hl (by decide) rfl (fun ls hl => ?_)
                refine lv_iload_n hx hb dX7_shorten_51 rfl (lv_at hl 3 rfl) ?_
                refine lv_iconst (v := 3) hx hb dX7_shorten_52 (by decide) ?_
                refine lv_irem hx hb dX7_shorten_53 (by decide) ?_
                refine lv_topi (fun x4_15 e_x4_15 => ?_)
                have hF := nm_at hF e_x4_15
                refine lv_istore (lv' := [(4, .int x4_15), (3, .int x3_14), (0, .ref h), (1, .int x1_10), (2, .int x2_11)]) hx hb dX7_shorten_54 hl (by decide) rfl (fun ls hl => ?_)
                refine lv_iload_n hx hb dX7_shorten_56 rfl (lv_at hl 1 rfl) ?_
                refine lv_iload hx hb dX7_shorten_57 (lv_at hl 0 rfl) ?_
                obtain ⟨k82, e_k82, hF⟩ := nm_ex hF
                have hk82 : ∀ (x1_20 : Int32) (q_21 : Nat → Int64) (base_22 : Nat → Int64) (H : Heap) (locs : List Loc) (ls : Array Slot), va_P (dC, dI) vwCl (mW cI cJ h a forms prime turns lineT lineU kinds upper lower numbers q_21 base_22 least table rows lists listSize tried other line makers touches made kindForm kindTurns kindWays) H → va_D A (mW cI cJ h a forms prime turns lineT lineU kinds upper lower numbers q_21 base_22 least table rows lists listSize tried other line makers touches made kindForm kindTurns kindWays) → va_S A s.heap H locs → lv_has ls 5 [(0, .ref h), (1, .int x1_20), (2, .int x2_11)] → k82 x1_20 q_21 base_22 = some (o_q, o_base) → W p l e rmX7_shorten s m ([.ref h] : List Value).toArray below meth c H locs 0 0 Q (F0 m 82 ls []) := by
                  intro x1_20 q_21 base_22 H locs ls hP hD hS hl hF
                  have hF := ka3 e_k82 hF
                  obtain ⟨x2_23, e_x2_23, hF⟩ := nm_ex hF
                  refine lv_iinc (v := x2_23) (lv' := [(2, .int x2_23), (0, .ref h), (1, .int x1_20)]) hx hb dX7_shorten_82 hl (k := 2) rfl (by rw [e_x2_23]; rfl) (by decide) rfl (fun ls hl => ?_)
                  refine lv_goto (tgt := 41) hx hb dX7_shorten_85 (by decide) ?_
                  exact ih41 x1_20 x2_23 q_21 base_22 H locs ls hP hD hS (lv_sub hl [1, 2, 0] rfl) hF
                clear e_k82
                refine lv_icmp_eq (tgt := 82) hx hb dX7_shorten_59 (by decide) (fun c0 => ?_) (fun c0 => ?_)
                · have hF := if_t hF c0
                  exact hk82 x1_10 q_12 base_13 H locs ls hP hD hS (lv_sub hl [2, 3, 4] rfl) hF
                · have hF := if_f hF c0
                  refine lv_aload_n hx hb dX7_shorten_62 rfl (lv_at hl 2 rfl) ?_
                  refine lv_iload_n hx hb dX7_shorten_63 rfl (lv_at hl 1 rfl) ?_
                  refine lv_iload hx hb dX7_shorten_64 (lv_at hl 0 rfl) ?_
                  obtain ⟨r_16, q_17, base_18, hc, hF⟩ := bd3_of hF
                  refine mc_i (va_runV (As := [.int x3_14, .int x4_15]) (rest := []) ⟨hx, hb, hml, hown, hts⟩ (c_X7_take l dC dI cI cJ h a fu H.size forms prime turns lineT lineU kinds upper lower numbers q_12 base_13 least table rows lists listSize tried other line makers touches made kindForm kindTurns kindWays x3_14 x4_15 r_16 q_17 base_18 hc) (cwV 2 hts g_X7_shorten_X7_take rfl rfl rfl (by decide +kernel) ⟨Nat.le_of_ble_eq_true rfl, Nat.le_of_ble_eq_true rfl⟩) ⟨mPc_blind, va_recv hK hP (ci := 5) (q0 := 0) rfl rfl, mPc_at hK hP hD⟩ rfl rfl hl.1 rfl (lv_room (Nat.le_of_ble_eq_true rfl)) dX7_shorten_66 ⟨Nat.zero_le _, Nat.zero_le _⟩) hS (fr_all hD hS hA) (fun H locs hP hD hS => ?_)
                  obtain ⟨k81, e_k81, hF⟩ := nm_ex hF
                  have hk81 : ∀ (s_19 : Int32) (H : Heap) (locs : List Loc) (ls : Array Slot), va_P (dC, dI) vwCl (mW cI cJ h a forms prime turns lineT lineU kinds upper lower numbers q_17 base_18 least table rows lists listSize tried other line makers touches made kindForm kindTurns kindWays) H → va_D A (mW cI cJ h a forms prime turns lineT lineU kinds upper lower numbers q_17 base_18 least table rows lists listSize tried other line makers touches made kindForm kindTurns kindWays) → va_S A s.heap H locs → lv_has ls 5 [(0, .ref h), (2, .int x2_11)] → k81 s_19 = some (o_q, o_base) → W p l e rmX7_shorten s m ([.ref h] : List Value).toArray below meth c H locs 0 0 Q (F0 m 81 ls [.int s_19]) := by
                    intro s_19 H locs ls hP hD hS hl hF
                    have hF := ka1 e_k81 hF
                    refine lv_istore_n (lv' := [(1, .int s_19), (0, .ref h), (2, .int x2_11)]) hx hb dX7_shorten_81 rfl hl (by decide) rfl (fun ls hl => ?_)
                    exact hk82 s_19 q_17 base_18 H locs ls hP hD hS (lv_sub hl [1, 0, 2] rfl) hF
                  clear e_k81
                  obtain ⟨k76, e_k76, hF⟩ := nm_ex hF
                  have hk76 : ∀  (H : Heap) (locs : List Loc) (ls : Array Slot), va_P (dC, dI) vwCl (mW cI cJ h a forms prime turns lineT lineU kinds upper lower numbers q_17 base_18 least table rows lists listSize tried other line makers touches made kindForm kindTurns kindWays) H → va_D A (mW cI cJ h a forms prime turns lineT lineU kinds upper lower numbers q_17 base_18 least table rows lists listSize tried other line makers touches made kindForm kindTurns kindWays) → va_S A s.heap H locs → lv_has ls 5 [(0, .ref h), (2, .int x2_11)] → k76 = some (o_q, o_base) → W p l e rmX7_shorten s m ([.ref h] : List Value).toArray below meth c H locs 0 0 Q (F0 m 76 ls []) := by
                    intro H locs ls hP hD hS hl hF
                    have hF := ka0 e_k76 hF
                    refine lv_iconst (v := 1) hx hb dX7_shorten_76 (by decide) ?_
                    refine lv_goto (tgt := 81) hx hb dX7_shorten_77 (by decide) ?_
                    exact hk81 (1 : Int32) H locs ls hP hD hS (lv_sub hl [0, 1] rfl) hF
                  clear e_k76
                  refine lv_if_ne (tgt := 76) hx hb dX7_shorten_69 (by decide) (fun c0 => ?_) (fun c0 => ?_)
                  · have hF := if_f hF c0
                    exact hk76 H locs ls hP hD hS (lv_sub hl [2, 4] rfl) hF
                  · have hF := if_t hF c0
                    refine lv_iload_n hx hb dX7_shorten_72 rfl (lv_at hl 3 rfl) ?_
                    refine lv_if_eq (tgt := 80) hx hb dX7_shorten_73 (by decide) (fun c0 => ?_) (fun c0 => ?_)
                    · have hF := if_t hF c0
                      refine lv_iconst (v := 0) hx hb dX7_shorten_80 (by decide) ?_
                      exact hk81 (0 : Int32) H locs ls hP hD hS (lv_sub hl [2, 4] rfl) hF
                    · have hF := if_f hF c0
                      exact hk76 H locs ls hP hD hS (lv_sub hl [2, 4] rfl) hF
          exact hL41 fu (0 : Int32) (0 : Int32) q_8 base_9 H locs ls hP hD hS (lv_sub hl [2, 1, 0] rfl) hF
    exact hL33 fu (1 : Int32) q base_6 H locs ls hP hD hS (lv_sub hl [1, 0] rfl) hF
  clear e_k31
  have hL2 : ∀ n : Nat, ∀ (x1_1 : Int32) (base_2 : Nat → Int64) (H : Heap) (locs : List Loc) (ls : Array Slot), va_P (dC, dI) vwCl (mW cI cJ h a forms prime turns lineT lineU kinds upper lower numbers q base_2 least table rows lists listSize tried other line makers touches made kindForm kindTurns kindWays) H → va_D A (mW cI cJ h a forms prime turns lineT lineU kinds upper lower numbers q base_2 least table rows lists listSize tried other line makers touches made kindForm kindTurns kindWays) → va_S A s.heap H locs → lv_has ls 5 [(0, .ref h), (1, .int x1_1)] → fX7_shorten_L2 k31 n x1_1 base_2 = some (o_q, o_base) → W p l e rmX7_shorten s m ([.ref h] : List Value).toArray below meth c H locs 0 0 Q (F0 m 2 ls []) := by
    intro n
    induction n with
    | zero => intro x1_1 base_2 H locs ls hP hD hS hl hF; rw [fX7_shorten_L2] at hF; cases hF
    | succ n ih2 =>
      intro x1_1 base_2 H locs ls hP hD hS hl hF
      rw [fX7_shorten_L2] at hF
      refine lv_iload_n hx hb dX7_shorten_2 rfl (lv_at hl 1 rfl) ?_
      refine lv_bipush (v := (9)) hx hb dX7_shorten_3 (by decide) ?_
      refine lv_icmp_ge (tgt := 31) hx hb dX7_shorten_5 (by decide) (fun c0 => ?_) (fun c0 => ?_)
      · have hF := if_t hF c0
        exact hk31 base_2 H locs ls hP hD hS (lv_sub hl [0] rfl) hF
      · have hF := if_f hF c0
        refine lv_aload_n hx hb dX7_shorten_8 rfl (lv_at hl 0 rfl) ?_
        refine va_get (D := (dC, dI)) (ci := 5) (v := .ref (a 3)) (C := RX7) (T := TX7) (N := 25) hx hb hts hinX7 hown hK hP 0 rfl rfl 4 (by decide) hf_21 (fun _ h9 => h9) rfl dX7_shorten_9 ?_
        refine lv_iload_n hx hb dX7_shorten_12 rfl (lv_at hl 1 rfl) ?_
        refine lv_iload_n hx hb dX7_shorten_13 rfl (lv_at hl 1 rfl) ?_
        refine lv_iconst (v := 4) hx hb dX7_shorten_14 (by decide) ?_
        refine lv_irem hx hb dX7_shorten_15 (by decide) ?_
        obtain ⟨k24, e_k24, hF⟩ := nm_ex hF
        have hk24 : ∀ (s_3 : Int64) (H : Heap) (locs : List Loc) (ls : Array Slot), va_P (dC, dI) vwCl (mW cI cJ h a forms prime turns lineT lineU kinds upper lower numbers q base_2 least table rows lists listSize tried other line makers touches made kindForm kindTurns kindWays) H → va_D A (mW cI cJ h a forms prime turns lineT lineU kinds upper lower numbers q base_2 least table rows lists listSize tried other line makers touches made kindForm kindTurns kindWays) → va_S A s.heap H locs → lv_has ls 5 [(0, .ref h), (1, .int x1_1)] → k24 s_3 = some (o_q, o_base) → W p l e rmX7_shorten s m ([.ref h] : List Value).toArray below meth c H locs 0 0 Q (F0 m 24 ls [.long s_3, .int x1_1, .ref (a 3)]) := by
          intro s_3 H locs ls hP hD hS hl hF
          have hF := ka1 e_k24 hF
          obtain ⟨hi, hF⟩ := ck_of hF
          obtain ⟨base_4, e_base_4, hF⟩ := nm_ex hF
          refine kc_last (j := x1_1.toNatClampNeg) (g := base_4) hx hb hK hP hD hS 3 1 rfl rfl rfl hi dX7_shorten_24 e_base_4 (fun H locs hP hD hS => ?_)
          have hP : va_P (dC, dI) vwCl (mW cI cJ h a forms prime turns lineT lineU kinds upper lower numbers q base_4 least table rows lists listSize tried other line makers touches made kindForm kindTurns kindWays) H := hP
          have hD : va_D A (mW cI cJ h a forms prime turns lineT lineU kinds upper lower numbers q base_4 least table rows lists listSize tried other line makers touches made kindForm kindTurns kindWays) := hD
          obtain ⟨x1_5, e_x1_5, hF⟩ := nm_ex hF
          refine lv_iinc (v := x1_5) (lv' := [(1, .int x1_5), (0, .ref h)]) hx hb dX7_shorten_25 hl (k := 1) rfl (by rw [e_x1_5]; rfl) (by decide) rfl (fun ls hl => ?_)
          refine lv_goto (tgt := 2) hx hb dX7_shorten_28 (by decide) ?_
          exact ih2 x1_5 base_4 H locs ls hP hD hS (lv_sub hl [1, 0] rfl) hF
        clear e_k24
        refine lv_if_ne (tgt := 23) hx hb dX7_shorten_16 (by decide) (fun c0 => ?_) (fun c0 => ?_)
        · have hF := if_f hF c0
          refine lv_lconst (v := 0) hx hb dX7_shorten_23 (by decide) ?_
          exact hk24 (0 : Int64) H locs ls hP hD hS (lv_sub hl [0, 1] rfl) hF
        · have hF := if_t hF c0
          refine lv_lconst (v := 1) hx hb dX7_shorten_19 (by decide) ?_
          refine lv_goto (tgt := 24) hx hb dX7_shorten_20 (by decide) ?_
          exact hk24 (1 : Int64) H locs ls hP hD hS (lv_sub hl [0, 1] rfl) hF
  exact hL2 fu (0 : Int32) base H locs ls hP hD hS (lv_sub hl [1, 0] rfl) hF
def fX7_isApart (rows : Nat → Int64) (p0 : Int32) (p1 : Int64) (p2 : Int64) (p3 : Int64) : Option (Int32) :=
  if p0 = 0 then (nm (fun (s_9 : Int32) => if s_9 = 0 ∨ s_9 = 1 then some s_9 else none) (fun (k29 : (Int32) → Option (Int32)) => nm ((k29 (1 : Int32))) (fun (k24 : Option (Int32)) => if p1 = (0 : Int64) then (if p2 = (0 : Int64) then (if p3 = (0 : Int64) then ((k29 (0 : Int32))) else ((k24))) else ((k24))) else ((k24))))) else (if p0 = (1 : Int32) then (bd1 (fX7_cross p1 p2 p3 (rows 0) (rows 1) (rows 2) (0 : Int32)) (fun (r_5 : Int64) => nm (fun (s_8 : Int32) => if s_8 = 0 ∨ s_8 = 1 then some s_8 else none) (fun (k136 : (Int32) → Option (Int32)) => nm ((k136 (1 : Int32))) (fun (k131 : Option (Int32)) => if r_5 = (0 : Int64) then (bd1 (fX7_cross p1 p2 p3 (rows 0) (rows 1) (rows 2) (1 : Int32)) (fun (r_6 : Int64) => if r_6 = (0 : Int64) then (bd1 (fX7_cross p1 p2 p3 (rows 0) (rows 1) (rows 2) (2 : Int32)) (fun (r_7 : Int64) => if r_7 = (0 : Int64) then ((k136 (0 : Int32))) else ((k131)))) else ((k131)))) else ((k131)))))) else (bd1 (fX7_cross (rows 0) (rows 1) (rows 2) (rows 3) (rows 4) (rows 5) (0 : Int32)) (fun (r_1 : Int64) => bd1 (fX7_cross (rows 0) (rows 1) (rows 2) (rows 3) (rows 4) (rows 5) (1 : Int32)) (fun (r_2 : Int64) => bd1 (fX7_cross (rows 0) (rows 1) (rows 2) (rows 3) (rows 4) (rows 5) (2 : Int32)) (fun (r_3 : Int64) => nm (fun (s_4 : Int32) => if s_4 = 0 ∨ s_4 = 1 then some s_4 else none) (fun (k289 : (Int32) → Option (Int32)) => if (((p1 * r_1) + (p2 * r_2)) + (p3 * r_3)) = (0 : Int64) then ((k289 (0 : Int32))) else ((k289 (1 : Int32)))))))))
def lkX7_isApart : List Cond := [.fieldLink RX7 30 "KinFormsModel" "rows" "[J"]
def vX7_isApart : List Cond := .code yX7_isApart cX7_isApart 14 (some .boolean) :: (lkX7_isApart ++ (wsX70 ++ (va_wsS RX7 92 yX7_cross vX7_cross ++ ([]))))
theorem q_X7_isApart : ∀ w ∈ vX7_isApart, goodWord w = true := gd_cons rfl (gd_app (by decide +kernel) (gd_app q_wsX70 (gd_app (gd_S q_X7_cross) gd_nil)))
theorem g_X7_isApart_X7_cross : GoodIn vX7_isApart (va_wsS RX7 92 yX7_cross vX7_cross) := gi_of (fun w h => List.mem_cons_of_mem _ (List.mem_append_right _ (List.mem_append_right _ (List.mem_append_left _ h)))) (gd_S q_X7_cross)
abbrev rmX7_isApart : Room := { frames := 1, cells := 0, slots := 0, locals := 32 }
set_option maxHeartbeats 4000000 in
set_option maxRecDepth 100000 in
theorem c_X7_isApart (l : Launch) (dC : Nat → ClassId) (dI : Nat → Nat → Nat) (cI : ClassId) (cJ : ClassId) (h : Nat) (a : Nat → Nat) (forms : Int32) (prime : Int32) (turns : Int32) (lineT : Int32) (lineU : Int32) (kinds : Int32) (upper : Int64) (lower : Int64) (numbers : Nat → Int32) (q : Nat → Int64) (base : Nat → Int64) (least : Nat → Int64) (table : Nat → Int64) (rows : Nat → Int64) (lists : Nat → Int64) (listSize : Nat → Int32) (tried : Nat → Int64) (other : Nat → Int64) (line : Nat → Int64) (makers : Nat → Int64) (touches : Nat → Int64) (made : Nat → Int64) (kindForm : Nat → Int64) (kindTurns : Nat → Int32) (kindWays : Nat → Int32) (p0 : Int32) (p1 : Int64) (p2 : Int64) (p3 : Int64) (ro : Int32) (hF : fX7_isApart rows p0 p1 p2 p3 = some ro) : Met l yX7_isApart vX7_isApart rmX7_isApart (va_Pc [.ref h, .int p0, .long p1, .long p2, .long p3] (rPc (dC, dI) vwCl (mW cI cJ h a forms prime turns lineT lineU kinds upper lower numbers q base least table rows lists listSize tried other line makers touches made kindForm kindTurns kindWays) [(cI, .int), (cJ, .long)])) (vp_Si (fun x => x = ro)) 0 0 (fun _ => False) := by
  refine Met.ofW (cc := cX7_isApart) (maxL := 14) (ret := (some .boolean)) (by decide) rfl ?_
  intro p e s m args below meth c s₁ B hml hv
  obtain ⟨rfl, hP, hK⟩ := hv
  have hx := B.exec
  have hb := B.bytes
  have hr := B.returns
  have hts := atoms_spec (ws := vX7_isApart) B.pre
  have hlk : ∀ w ∈ lkX7_isApart, w.before _ s = true := fun w h => hts w (List.mem_cons_of_mem _ (List.mem_append_left _ h))
  have hown : s.vm.findClass RX7 = some m.cls := findClass_of_methodNamed B.named
  have hlocks := B.notSynchronized
  have hinX7 : ∀ w ∈ wsX70, w ∈ vX7_isApart := fun w h => List.mem_cons_of_mem _ (List.mem_append_right _ (List.mem_append_left _ h))
  have hf_30 := hlk (.fieldLink RX7 30 "KinFormsModel" "rows" "[J") (by decide +kernel)
  have hl := lv_entry ([.ref h, .int p0, .long p1, .long p2, .long p3] : List Value) (n := 14) (Nat.le_of_ble_eq_true rfl)
  rw [lg_entry_eq]
  generalize (lg_sl ([.ref h, .int p0, .long p1, .long p2, .long p3] : List Value) ++ List.replicate (14 - (lg_sl ([.ref h, .int p0, .long p1, .long p2, .long p3] : List Value)).length) Slot.unset).toArray = ls at hl ⊢
  have hl : lv_has ls 14 [(0, .ref h), (1, .int p0), (2, .long p1), (4, .long p2), (6, .long p3)] := hl
  unfold fX7_isApart at hF
  refine W_Q (fun Q hQ => ?_)
  refine lv_iload_n hx hb dX7_isApart_0 rfl (lv_at hl 1 rfl) ?_
  refine lv_if_ne (tgt := 30) hx hb dX7_isApart_1 (by decide) (fun c0 => ?_) (fun c0 => ?_)
  · have hF := if_f hF c0
    refine lv_iload_n hx hb dX7_isApart_30 rfl (lv_at hl 1 rfl) ?_
    refine lv_iconst (v := 1) hx hb dX7_isApart_31 (by decide) ?_
    refine lv_icmp_ne (tgt := 137) hx hb dX7_isApart_32 (by decide) (fun c0 => ?_) (fun c0 => ?_)
    · have hF := if_f hF c0
      refine lv_aload_n hx hb dX7_isApart_137 rfl (lv_at hl 0 rfl) ?_
      refine va_get (D := (dC, dI)) (ci := 5) (v := .ref (a 6)) (C := RX7) (T := TX7) (N := 25) hx hb hts hinX7 hown hK hP 0 rfl rfl 8 (by decide) hf_30 (fun _ h9 => h9) rfl dX7_isApart_138 ?_
      refine lv_iconst (v := 0) hx hb dX7_isApart_141 (by decide) ?_
      refine kc_lald (j := 0) hx hb hK hP 6 1 rfl rfl (by decide) (by decide) dX7_isApart_142 ?_
      refine lv_aload_n hx hb dX7_isApart_143 rfl (lv_at hl 0 rfl) ?_
      refine va_get (D := (dC, dI)) (ci := 5) (v := .ref (a 6)) (C := RX7) (T := TX7) (N := 25) hx hb hts hinX7 hown hK hP 0 rfl rfl 8 (by decide) hf_30 (fun _ h9 => h9) rfl dX7_isApart_144 ?_
      refine lv_iconst (v := 1) hx hb dX7_isApart_147 (by decide) ?_
      refine kc_lald (j := 1) hx hb hK hP 6 1 rfl rfl (by decide) (by decide) dX7_isApart_148 ?_
      refine lv_aload_n hx hb dX7_isApart_149 rfl (lv_at hl 0 rfl) ?_
      refine va_get (D := (dC, dI)) (ci := 5) (v := .ref (a 6)) (C := RX7) (T := TX7) (N := 25) hx hb hts hinX7 hown hK hP 0 rfl rfl 8 (by decide) hf_30 (fun _ h9 => h9) rfl dX7_isApart_150 ?_
      refine lv_iconst (v := 2) hx hb dX7_isApart_153 (by decide) ?_
      refine kc_lald (j := 2) hx hb hK hP 6 1 rfl rfl (by decide) (by decide) dX7_isApart_154 ?_
      refine lv_aload_n hx hb dX7_isApart_155 rfl (lv_at hl 0 rfl) ?_
      refine va_get (D := (dC, dI)) (ci := 5) (v := .ref (a 6)) (C := RX7) (T := TX7) (N := 25) hx hb hts hinX7 hown hK hP 0 rfl rfl 8 (by decide) hf_30 (fun _ h9 => h9) rfl dX7_isApart_156 ?_
      refine lv_iconst (v := 3) hx hb dX7_isApart_159 (by decide) ?_
      refine kc_lald (j := 3) hx hb hK hP 6 1 rfl rfl (by decide) (by decide) dX7_isApart_160 ?_
      refine lv_aload_n hx hb dX7_isApart_161 rfl (lv_at hl 0 rfl) ?_
      refine va_get (D := (dC, dI)) (ci := 5) (v := .ref (a 6)) (C := RX7) (T := TX7) (N := 25) hx hb hts hinX7 hown hK hP 0 rfl rfl 8 (by decide) hf_30 (fun _ h9 => h9) rfl dX7_isApart_162 ?_
      refine lv_iconst (v := 4) hx hb dX7_isApart_165 (by decide) ?_
      refine kc_lald (j := 4) hx hb hK hP 6 1 rfl rfl (by decide) (by decide) dX7_isApart_166 ?_
      refine lv_aload_n hx hb dX7_isApart_167 rfl (lv_at hl 0 rfl) ?_
      refine va_get (D := (dC, dI)) (ci := 5) (v := .ref (a 6)) (C := RX7) (T := TX7) (N := 25) hx hb hts hinX7 hown hK hP 0 rfl rfl 8 (by decide) hf_30 (fun _ h9 => h9) rfl dX7_isApart_168 ?_
      refine lv_iconst (v := 5) hx hb dX7_isApart_171 (by decide) ?_
      refine kc_lald (j := 5) hx hb hK hP 6 1 rfl rfl (by decide) (by decide) dX7_isApart_172 ?_
      refine lv_iconst (v := 0) hx hb dX7_isApart_173 (by decide) ?_
      obtain ⟨r_1, hc, hF⟩ := bd1_of hF
      refine rc_l (va_runS (As := [.long (rows 0), .long (rows 1), .long (rows 2), .long (rows 3), .long (rows 4), .long (rows 5), .int (0 : Int32)]) (rest := []) ⟨hx, hb, hml, hown, hts⟩ (c_X7_cross l (rows 0) (rows 1) (rows 2) (rows 3) (rows 4) (rows 5) (0 : Int32) r_1 hc) (va_cwS 7 hts g_X7_isApart_X7_cross rfl rfl rfl (by decide +kernel) ⟨Nat.le_of_ble_eq_true rfl, Nat.le_of_ble_eq_true rfl⟩) ⟨tPc_blind, tPc_at⟩ rfl rfl hl.1 rfl (lv_room (Nat.le_of_ble_eq_true rfl)) dX7_isApart_174 ⟨Nat.zero_le _, Nat.zero_le _⟩) ?_
      refine lv_lstore (lv' := [(8, .long r_1), (0, .ref h), (1, .int p0), (2, .long p1), (4, .long p2), (6, .long p3)]) hx hb dX7_isApart_177 hl (by decide) rfl (fun ls hl => ?_)
      refine lv_aload_n hx hb dX7_isApart_179 rfl (lv_at hl 1 rfl) ?_
      refine va_get (D := (dC, dI)) (ci := 5) (v := .ref (a 6)) (C := RX7) (T := TX7) (N := 25) hx hb hts hinX7 hown hK hP 0 rfl rfl 8 (by decide) hf_30 (fun _ h9 => h9) rfl dX7_isApart_180 ?_
      refine lv_iconst (v := 0) hx hb dX7_isApart_183 (by decide) ?_
      refine kc_lald (j := 0) hx hb hK hP 6 1 rfl rfl (by decide) (by decide) dX7_isApart_184 ?_
      refine lv_aload_n hx hb dX7_isApart_185 rfl (lv_at hl 1 rfl) ?_
      refine va_get (D := (dC, dI)) (ci := 5) (v := .ref (a 6)) (C := RX7) (T := TX7) (N := 25) hx hb hts hinX7 hown hK hP 0 rfl rfl 8 (by decide) hf_30 (fun _ h9 => h9) rfl dX7_isApart_186 ?_
      refine lv_iconst (v := 1) hx hb dX7_isApart_189 (by decide) ?_
      refine kc_lald (j := 1) hx hb hK hP 6 1 rfl rfl (by decide) (by decide) dX7_isApart_190 ?_
      refine lv_aload_n hx hb dX7_isApart_191 rfl (lv_at hl 1 rfl) ?_
      refine va_get (D := (dC, dI)) (ci := 5) (v := .ref (a 6)) (C := RX7) (T := TX7) (N := 25) hx hb hts hinX7 hown hK hP 0 rfl rfl 8 (by decide) hf_30 (fun _ h9 => h9) rfl dX7_isApart_192 ?_
      refine lv_iconst (v := 2) hx hb dX7_isApart_195 (by decide) ?_
      refine kc_lald (j := 2) hx hb hK hP 6 1 rfl rfl (by decide) (by decide) dX7_isApart_196 ?_
      refine lv_aload_n hx hb dX7_isApart_197 rfl (lv_at hl 1 rfl) ?_
      refine va_get (D := (dC, dI)) (ci := 5) (v := .ref (a 6)) (C := RX7) (T := TX7) (N := 25) hx hb hts hinX7 hown hK hP 0 rfl rfl 8 (by decide) hf_30 (fun _ h9 => h9) rfl dX7_isApart_198 ?_
      refine lv_iconst (v := 3) hx hb dX7_isApart_201 (by decide) ?_
      refine kc_lald (j := 3) hx hb hK hP 6 1 rfl rfl (by decide) (by decide) dX7_isApart_202 ?_
      refine lv_aload_n hx hb dX7_isApart_203 rfl (lv_at hl 1 rfl) ?_
      refine va_get (D := (dC, dI)) (ci := 5) (v := .ref (a 6)) (C := RX7) (T := TX7) (N := 25) hx hb hts hinX7 hown hK hP 0 rfl rfl 8 (by decide) hf_30 (fun _ h9 => h9) rfl dX7_isApart_204 ?_
      refine lv_iconst (v := 4) hx hb dX7_isApart_207 (by decide) ?_
      refine kc_lald (j := 4) hx hb hK hP 6 1 rfl rfl (by decide) (by decide) dX7_isApart_208 ?_
      refine lv_aload_n hx hb dX7_isApart_209 rfl (lv_at hl 1 rfl) ?_
      refine va_get (D := (dC, dI)) (ci := 5) (v := .ref (a 6)) (C := RX7) (T := TX7) (N := 25) hx hb hts hinX7 hown hK hP 0 rfl rfl 8 (by decide) hf_30 (fun _ h9 => h9) rfl dX7_isApart_210 ?_
      refine lv_iconst (v := 5) hx hb dX7_isApart_213 (by decide) ?_
      refine kc_lald (j := 5) hx hb hK hP 6 1 rfl rfl (by decide) (by decide) dX7_isApart_214 ?_
      refine lv_iconst (v := 1) hx hb dX7_isApart_215 (by decide) ?_
      obtain ⟨r_2, hc, hF⟩ := bd1_of hF
      refine rc_l (va_runS (As := [.long (rows 0), .long (rows 1), .long (rows 2), .long (rows 3), .long (rows 4), .long (rows 5), .int (1 : Int32)]) (rest := []) ⟨hx, hb, hml, hown, hts⟩ (c_X7_cross l (rows 0) (rows 1) (rows 2) (rows 3) (rows 4) (rows 5) (1 : Int32) r_2 hc) (va_cwS 7 hts g_X7_isApart_X7_cross rfl rfl rfl (by decide +kernel) ⟨Nat.le_of_ble_eq_true rfl, Nat.le_of_ble_eq_true rfl⟩) ⟨tPc_blind, tPc_at⟩ rfl rfl hl.1 rfl (lv_room (Nat.le_of_ble_eq_true rfl)) dX7_isApart_216 ⟨Nat.zero_le _, Nat.zero_le _⟩) ?_
      refine lv_lstore (lv' := [(10, .long r_2), (8, .long r_1), (0, .ref h), (1, .int p0), (2, .long p1), (4, .long p2), (6, .long p3)]) hx hb dX7_isApart_219 hl (by decide) rfl (fun ls hl => ?_)
      refine lv_aload_n hx hb dX7_isApart_221 rfl (lv_at hl 2 rfl) ?_
      refine va_get (D := (dC, dI)) (ci := 5) (v := .ref (a 6)) (C := RX7) (T := TX7) (N := 25) hx hb hts hinX7 hown hK hP 0 rfl rfl 8 (by decide) hf_30 (fun _ h9 => h9) rfl dX7_isApart_222 ?_
      refine lv_iconst (v := 0) hx hb dX7_isApart_225 (by decide) ?_
      refine kc_lald (j := 0) hx hb hK hP 6 1 rfl rfl (by decide) (by decide) dX7_isApart_226 ?_
      refine lv_aload_n hx hb dX7_isApart_227 rfl (lv_at hl 2 rfl) ?_
      refine va_get (D := (dC, dI)) (ci := 5) (v := .ref (a 6)) (C := RX7) (T := TX7) (N := 25) hx hb hts hinX7 hown hK hP 0 rfl rfl 8 (by decide) hf_30 (fun _ h9 => h9) rfl dX7_isApart_228 ?_
      refine lv_iconst (v := 1) hx hb dX7_isApart_231 (by decide) ?_
      refine kc_lald (j := 1) hx hb hK hP 6 1 rfl rfl (by decide) (by decide) dX7_isApart_232 ?_
      refine lv_aload_n hx hb dX7_isApart_233 rfl (lv_at hl 2 rfl) ?_
      refine va_get (D := (dC, dI)) (ci := 5) (v := .ref (a 6)) (C := RX7) (T := TX7) (N := 25) hx hb hts hinX7 hown hK hP 0 rfl rfl 8 (by decide) hf_30 (fun _ h9 => h9) rfl dX7_isApart_234 ?_
      refine lv_iconst (v := 2) hx hb dX7_isApart_237 (by decide) ?_
      refine kc_lald (j := 2) hx hb hK hP 6 1 rfl rfl (by decide) (by decide) dX7_isApart_238 ?_
      refine lv_aload_n hx hb dX7_isApart_239 rfl (lv_at hl 2 rfl) ?_
      refine va_get (D := (dC, dI)) (ci := 5) (v := .ref (a 6)) (C := RX7) (T := TX7) (N := 25) hx hb hts hinX7 hown hK hP 0 rfl rfl 8 (by decide) hf_30 (fun _ h9 => h9) rfl dX7_isApart_240 ?_
      refine lv_iconst (v := 3) hx hb dX7_isApart_243 (by decide) ?_
      refine kc_lald (j := 3) hx hb hK hP 6 1 rfl rfl (by decide) (by decide) dX7_isApart_244 ?_
      refine lv_aload_n hx hb dX7_isApart_245 rfl (lv_at hl 2 rfl) ?_
      refine va_get (D := (dC, dI)) (ci := 5) (v := .ref (a 6)) (C := RX7) (T := TX7) (N := 25) hx hb hts hinX7 hown hK hP 0 rfl rfl 8 (by decide) hf_30 (fun _ h9 => h9) rfl dX7_isApart_246 ?_
      refine lv_iconst (v := 4) hx hb dX7_isApart_249 (by decide) ?_
      refine kc_lald (j := 4) hx hb hK hP 6 1 rfl rfl (by decide) (by decide) dX7_isApart_250 ?_
      refine lv_aload_n hx hb dX7_isApart_251 rfl (lv_at hl 2 rfl) ?_
      refine va_get (D := (dC, dI)) (ci := 5) (v := .ref (a 6)) (C := RX7) (T := TX7) (N := 25) hx hb hts hinX7 hown hK hP 0 rfl rfl 8 (by decide) hf_30 (fun _ h9 => h9) rfl dX7_isApart_252 ?_
      refine lv_iconst (v := 5) hx hb dX7_isApart_255 (by decide) ?_
      refine kc_lald (j := 5) hx hb hK hP 6 1 rfl rfl (by decide) (by decide) dX7_isApart_256 ?_
      refine lv_iconst (v := 2) hx hb dX7_isApart_257 (by decide) ?_
      obtain ⟨r_3, hc, hF⟩ := bd1_of hF
      refine rc_l (va_runS (As := [.long (rows 0), .long (rows 1), .long (rows 2), .long (rows 3), .long (rows 4), .long (rows 5), .int (2 : Int32)]) (rest := []) ⟨hx, hb, hml, hown, hts⟩ (c_X7_cross l (rows 0) (rows 1) (rows 2) (rows 3) (rows 4) (rows 5) (2 : Int32) r_3 hc) (va_cwS 7 hts g_X7_isApart_X7_cross rfl rfl rfl (by decide +kernel) ⟨Nat.le_of_ble_eq_true rfl, Nat.le_of_ble_eq_true rfl⟩) ⟨tPc_blind, tPc_at⟩ rfl rfl hl.1 rfl (lv_room (Nat.le_of_ble_eq_true rfl)) dX7_isApart_258 ⟨Nat.zero_le _, Nat.zero_le _⟩) ?_
      refine lv_lstore (lv' := [(12, .long r_3), (10, .long r_2), (8, .long r_1), (0, .ref h), (1, .int p0), (2, .long p1), (4, .long p2), (6, .long p3)]) hx hb dX7_isApart_261 hl (by decide) rfl (fun ls hl => ?_)
      refine lv_lload_n hx hb dX7_isApart_263 rfl (lv_at hl 5 rfl) ?_
      refine lv_lload hx hb dX7_isApart_264 (lv_at hl 2 rfl) ?_
      refine lv_lmul hx hb dX7_isApart_266 ?_
      refine lv_lload hx hb dX7_isApart_267 (lv_at hl 6 rfl) ?_
      refine lv_lload hx hb dX7_isApart_269 (lv_at hl 1 rfl) ?_
      refine lv_lmul hx hb dX7_isApart_271 ?_
      refine lv_ladd hx hb dX7_isApart_272 ?_
      refine lv_lload hx hb dX7_isApart_273 (lv_at hl 7 rfl) ?_
      refine lv_lload hx hb dX7_isApart_275 (lv_at hl 0 rfl) ?_
      refine lv_lmul hx hb dX7_isApart_277 ?_
      refine lv_ladd hx hb dX7_isApart_278 ?_
      refine lv_lconst (v := 0) hx hb dX7_isApart_279 (by decide) ?_
      refine W.lcmp hx hb dX7_isApart_280 ?_
      obtain ⟨k289, e_k289, hF⟩ := nm_ex hF
      have hk289 : ∀ (s_4 : Int32) (ls : Array Slot), lv_has ls 14 [] → k289 s_4 = some ro → W p l e rmX7_isApart s m ([.ref h, .int p0, .long p1, .long p2, .long p3] : List Value).toArray below meth c s.heap [] 0 0 Q (F0 m 289 ls [.int s_4]) := by
        intro s_4 ls hl hF
        have hF := ka1 e_k289 hF
        obtain ⟨hz, hF⟩ := ck_of hF
        have q0 := sm1 hF
        refine W_Qe hQ ?_
        exact W.zret (ty := .boolean) hx hb hr (nz_bool hz) (fun t ht hW => ⟨_, rfl, q0, ht⟩) (fun _ h9 => by cases h9) dX7_isApart_289
      clear e_k289
      refine lv_if_eq (tgt := 288) hx hb dX7_isApart_281 (by decide) (fun c0 => ?_) (fun c0 => ?_)
      · have c0 := (lg_cmp_eq _ _).mp c0
        have hF := if_t hF c0
        refine lv_iconst (v := 0) hx hb dX7_isApart_288 (by decide) ?_
        exact hk289 (0 : Int32) ls (lv_sub hl [] rfl) hF
      · have c0 := (not_congr (lg_cmp_eq _ _)).mp c0
        have hF := if_f hF c0
        refine lv_iconst (v := 1) hx hb dX7_isApart_284 (by decide) ?_
        refine lv_goto (tgt := 289) hx hb dX7_isApart_285 (by decide) ?_
        exact hk289 (1 : Int32) ls (lv_sub hl [] rfl) hF
    · have hF := if_t hF c0
      refine lv_lload_n hx hb dX7_isApart_35 rfl (lv_at hl 2 rfl) ?_
      refine lv_lload hx hb dX7_isApart_36 (lv_at hl 3 rfl) ?_
      refine lv_lload hx hb dX7_isApart_38 (lv_at hl 4 rfl) ?_
      refine lv_aload_n hx hb dX7_isApart_40 rfl (lv_at hl 0 rfl) ?_
      refine va_get (D := (dC, dI)) (ci := 5) (v := .ref (a 6)) (C := RX7) (T := TX7) (N := 25) hx hb hts hinX7 hown hK hP 0 rfl rfl 8 (by decide) hf_30 (fun _ h9 => h9) rfl dX7_isApart_41 ?_
      refine lv_iconst (v := 0) hx hb dX7_isApart_44 (by decide) ?_
      refine kc_lald (j := 0) hx hb hK hP 6 1 rfl rfl (by decide) (by decide) dX7_isApart_45 ?_
      refine lv_aload_n hx hb dX7_isApart_46 rfl (lv_at hl 0 rfl) ?_
      refine va_get (D := (dC, dI)) (ci := 5) (v := .ref (a 6)) (C := RX7) (T := TX7) (N := 25) hx hb hts hinX7 hown hK hP 0 rfl rfl 8 (by decide) hf_30 (fun _ h9 => h9) rfl dX7_isApart_47 ?_
      refine lv_iconst (v := 1) hx hb dX7_isApart_50 (by decide) ?_
      refine kc_lald (j := 1) hx hb hK hP 6 1 rfl rfl (by decide) (by decide) dX7_isApart_51 ?_
      refine lv_aload_n hx hb dX7_isApart_52 rfl (lv_at hl 0 rfl) ?_
      refine va_get (D := (dC, dI)) (ci := 5) (v := .ref (a 6)) (C := RX7) (T := TX7) (N := 25) hx hb hts hinX7 hown hK hP 0 rfl rfl 8 (by decide) hf_30 (fun _ h9 => h9) rfl dX7_isApart_53 ?_
      refine lv_iconst (v := 2) hx hb dX7_isApart_56 (by decide) ?_
      refine kc_lald (j := 2) hx hb hK hP 6 1 rfl rfl (by decide) (by decide) dX7_isApart_57 ?_
      refine lv_iconst (v := 0) hx hb dX7_isApart_58 (by decide) ?_
      obtain ⟨r_5, hc, hF⟩ := bd1_of hF
      refine rc_l (va_runS (As := [.long p1, .long p2, .long p3, .long (rows 0), .long (rows 1), .long (rows 2), .int (0 : Int32)]) (rest := []) ⟨hx, hb, hml, hown, hts⟩ (c_X7_cross l p1 p2 p3 (rows 0) (rows 1) (rows 2) (0 : Int32) r_5 hc) (va_cwS 7 hts g_X7_isApart_X7_cross rfl rfl rfl (by decide +kernel) ⟨Nat.le_of_ble_eq_true rfl, Nat.le_of_ble_eq_true rfl⟩) ⟨tPc_blind, tPc_at⟩ rfl rfl hl.1 rfl (lv_room (Nat.le_of_ble_eq_true rfl)) dX7_isApart_59 ⟨Nat.zero_le _, Nat.zero_le _⟩) ?_
      refine lv_lconst (v := 0) hx hb dX7_isApart_62 (by decide) ?_
      refine W.lcmp hx hb dX7_isApart_63 ?_
      obtain ⟨k136, e_k136, hF⟩ := nm_ex hF
      have hk136 : ∀ (s_8 : Int32) (ls : Array Slot), lv_has ls 14 [] → k136 s_8 = some ro → W p l e rmX7_isApart s m ([.ref h, .int p0, .long p1, .long p2, .long p3] : List Value).toArray below meth c s.heap [] 0 0 Q (F0 m 136 ls [.int s_8]) := by
        intro s_8 ls hl hF
        have hF := ka1 e_k136 hF
        obtain ⟨hz, hF⟩ := ck_of hF
        have q0 := sm1 hF
        refine W_Qe hQ ?_
        exact W.zret (ty := .boolean) hx hb hr (nz_bool hz) (fun t ht hW => ⟨_, rfl, q0, ht⟩) (fun _ h9 => by cases h9) dX7_isApart_136
      clear e_k136
      obtain ⟨k131, e_k131, hF⟩ := nm_ex hF
      have hk131 : ∀  (ls : Array Slot), lv_has ls 14 [] → k131 = some ro → W p l e rmX7_isApart s m ([.ref h, .int p0, .long p1, .long p2, .long p3] : List Value).toArray below meth c s.heap [] 0 0 Q (F0 m 131 ls []) := by
        intro ls hl hF
        have hF := ka0 e_k131 hF
        refine lv_iconst (v := 1) hx hb dX7_isApart_131 (by decide) ?_
        refine lv_goto (tgt := 136) hx hb dX7_isApart_132 (by decide) ?_
        exact hk136 (1 : Int32) ls (lv_sub hl [] rfl) hF
      clear e_k131
      refine lv_if_ne (tgt := 131) hx hb dX7_isApart_64 (by decide) (fun c0 => ?_) (fun c0 => ?_)
      · have c0 := (not_congr (lg_cmp_eq _ _)).mp c0
        have hF := if_f hF c0
        exact hk131 ls (lv_sub hl [] rfl) hF
      · have c0 := (lg_cmp_eq _ _).mp c0
        have hF := if_t hF c0
        refine lv_lload_n hx hb dX7_isApart_67 rfl (lv_at hl 2 rfl) ?_
        refine lv_lload hx hb dX7_isApart_68 (lv_at hl 3 rfl) ?_
        refine lv_lload hx hb dX7_isApart_70 (lv_at hl 4 rfl) ?_
        refine lv_aload_n hx hb dX7_isApart_72 rfl (lv_at hl 0 rfl) ?_
        refine va_get (D := (dC, dI)) (ci := 5) (v := .ref (a 6)) (C := RX7) (T := TX7) (N := 25) hx hb hts hinX7 hown hK hP 0 rfl rfl 8 (by decide) hf_30 (fun _ h9 => h9) rfl dX7_isApart_73 ?_
        refine lv_iconst (v := 0) hx hb dX7_isApart_76 (by decide) ?_
        refine kc_lald (j := 0) hx hb hK hP 6 1 rfl rfl (by decide) (by decide) dX7_isApart_77 ?_
        refine lv_aload_n hx hb dX7_isApart_78 rfl (lv_at hl 0 rfl) ?_
        refine va_get (D := (dC, dI)) (ci := 5) (v := .ref (a 6)) (C := RX7) (T := TX7) (N := 25) hx hb hts hinX7 hown hK hP 0 rfl rfl 8 (by decide) hf_30 (fun _ h9 => h9) rfl dX7_isApart_79 ?_
        refine lv_iconst (v := 1) hx hb dX7_isApart_82 (by decide) ?_
        refine kc_lald (j := 1) hx hb hK hP 6 1 rfl rfl (by decide) (by decide) dX7_isApart_83 ?_
        refine lv_aload_n hx hb dX7_isApart_84 rfl (lv_at hl 0 rfl) ?_
        refine va_get (D := (dC, dI)) (ci := 5) (v := .ref (a 6)) (C := RX7) (T := TX7) (N := 25) hx hb hts hinX7 hown hK hP 0 rfl rfl 8 (by decide) hf_30 (fun _ h9 => h9) rfl dX7_isApart_85 ?_
        refine lv_iconst (v := 2) hx hb dX7_isApart_88 (by decide) ?_
        refine kc_lald (j := 2) hx hb hK hP 6 1 rfl rfl (by decide) (by decide) dX7_isApart_89 ?_
        refine lv_iconst (v := 1) hx hb dX7_isApart_90 (by decide) ?_
        obtain ⟨r_6, hc, hF⟩ := bd1_of hF
        refine rc_l (va_runS (As := [.long p1, .long p2, .long p3, .long (rows 0), .long (rows 1), .long (rows 2), .int (1 : Int32)]) (rest := []) ⟨hx, hb, hml, hown, hts⟩ (c_X7_cross l p1 p2 p3 (rows 0) (rows 1) (rows 2) (1 : Int32) r_6 hc) (va_cwS 7 hts g_X7_isApart_X7_cross rfl rfl rfl (by decide +kernel) ⟨Nat.le_of_ble_eq_true rfl, Nat.le_of_ble_eq_true rfl⟩) ⟨tPc_blind, tPc_at⟩ rfl rfl hl.1 rfl (lv_room (Nat.le_of_ble_eq_true rfl)) dX7_isApart_91 ⟨Nat.zero_le _, Nat.zero_le _⟩) ?_
        refine lv_lconst (v := 0) hx hb dX7_isApart_94 (by decide) ?_
        refine W.lcmp hx hb dX7_isApart_95 ?_
        refine lv_if_ne (tgt := 131) hx hb dX7_isApart_96 (by decide) (fun c0 => ?_) (fun c0 => ?_)
        · have c0 := (not_congr (lg_cmp_eq _ _)).mp c0
          have hF := if_f hF c0
          exact hk131 ls (lv_sub hl [] rfl) hF
        · have c0 := (lg_cmp_eq _ _).mp c0
          have hF := if_t hF c0
          refine lv_lload_n hx hb dX7_isApart_99 rfl (lv_at hl 2 rfl) ?_
          refine lv_lload hx hb dX7_isApart_100 (lv_at hl 3 rfl) ?_
          refine lv_lload hx hb dX7_isApart_102 (lv_at hl 4 rfl) ?_
          refine lv_aload_n hx hb dX7_isApart_104 rfl (lv_at hl 0 rfl) ?_
          refine va_get (D := (dC, dI)) (ci := 5) (v := .ref (a 6)) (C := RX7) (T := TX7) (N := 25) hx hb hts hinX7 hown hK hP 0 rfl rfl 8 (by decide) hf_30 (fun _ h9 => h9) rfl dX7_isApart_105 ?_
          refine lv_iconst (v := 0) hx hb dX7_isApart_108 (by decide) ?_
          refine kc_lald (j := 0) hx hb hK hP 6 1 rfl rfl (by decide) (by decide) dX7_isApart_109 ?_
          refine lv_aload_n hx hb dX7_isApart_110 rfl (lv_at hl 0 rfl) ?_
          refine va_get (D := (dC, dI)) (ci := 5) (v := .ref (a 6)) (C := RX7) (T := TX7) (N := 25) hx hb hts hinX7 hown hK hP 0 rfl rfl 8 (by decide) hf_30 (fun _ h9 => h9) rfl dX7_isApart_111 ?_
          refine lv_iconst (v := 1) hx hb dX7_isApart_114 (by decide) ?_
          refine kc_lald (j := 1) hx hb hK hP 6 1 rfl rfl (by decide) (by decide) dX7_isApart_115 ?_
          refine lv_aload_n hx hb dX7_isApart_116 rfl (lv_at hl 0 rfl) ?_
          refine va_get (D := (dC, dI)) (ci := 5) (v := .ref (a 6)) (C := RX7) (T := TX7) (N := 25) hx hb hts hinX7 hown hK hP 0 rfl rfl 8 (by decide) hf_30 (fun _ h9 => h9) rfl dX7_isApart_117 ?_
          refine lv_iconst (v := 2) hx hb dX7_isApart_120 (by decide) ?_
          refine kc_lald (j := 2) hx hb hK hP 6 1 rfl rfl (by decide) (by decide) dX7_isApart_121 ?_
          refine lv_iconst (v := 2) hx hb dX7_isApart_122 (by decide) ?_
          obtain ⟨r_7, hc, hF⟩ := bd1_of hF
          refine rc_l (va_runS (As := [.long p1, .long p2, .long p3, .long (rows 0), .long (rows 1), .long (rows 2), .int (2 : Int32)]) (rest := []) ⟨hx, hb, hml, hown, hts⟩ (c_X7_cross l p1 p2 p3 (rows 0) (rows 1) (rows 2) (2 : Int32) r_7 hc) (va_cwS 7 hts g_X7_isApart_X7_cross rfl rfl rfl (by decide +kernel) ⟨Nat.le_of_ble_eq_true rfl, Nat.le_of_ble_eq_true rfl⟩) ⟨tPc_blind, tPc_at⟩ rfl rfl hl.1 rfl (lv_room (Nat.le_of_ble_eq_true rfl)) dX7_isApart_123 ⟨Nat.zero_le _, Nat.zero_le _⟩) ?_
          refine lv_lconst (v := 0) hx hb dX7_isApart_126 (by decide) ?_
          refine W.lcmp hx hb dX7_isApart_127 ?_
          refine lv_if_eq (tgt := 135) hx hb dX7_isApart_128 (by decide) (fun c0 => ?_) (fun c0 => ?_)
          · have c0 := (lg_cmp_eq _ _).mp c0
            have hF := if_t hF c0
            refine lv_iconst (v := 0) hx hb dX7_isApart_135 (by decide) ?_
            exact hk136 (0 : Int32) ls (lv_sub hl [] rfl) hF
          · have c0 := (not_congr (lg_cmp_eq _ _)).mp c0
            have hF := if_f hF c0
            exact hk131 ls (lv_sub hl [] rfl) hF
  · have hF := if_t hF c0
    refine lv_lload_n hx hb dX7_isApart_4 rfl (lv_at hl 2 rfl) ?_
    refine lv_lconst (v := 0) hx hb dX7_isApart_5 (by decide) ?_
    refine W.lcmp hx hb dX7_isApart_6 ?_
    obtain ⟨k29, e_k29, hF⟩ := nm_ex hF
    have hk29 : ∀ (s_9 : Int32) (ls : Array Slot), lv_has ls 14 [] → k29 s_9 = some ro → W p l e rmX7_isApart s m ([.ref h, .int p0, .long p1, .long p2, .long p3] : List Value).toArray below meth c s.heap [] 0 0 Q (F0 m 29 ls [.int s_9]) := by
      intro s_9 ls hl hF
      have hF := ka1 e_k29 hF
      obtain ⟨hz, hF⟩ := ck_of hF
      have q0 := sm1 hF
      refine W_Qe hQ ?_
      exact W.zret (ty := .boolean) hx hb hr (nz_bool hz) (fun t ht hW => ⟨_, rfl, q0, ht⟩) (fun _ h9 => by cases h9) dX7_isApart_29
    clear e_k29
    obtain ⟨k24, e_k24, hF⟩ := nm_ex hF
    have hk24 : ∀  (ls : Array Slot), lv_has ls 14 [] → k24 = some ro → W p l e rmX7_isApart s m ([.ref h, .int p0, .long p1, .long p2, .long p3] : List Value).toArray below meth c s.heap [] 0 0 Q (F0 m 24 ls []) := by
      intro ls hl hF
      have hF := ka0 e_k24 hF
      refine lv_iconst (v := 1) hx hb dX7_isApart_24 (by decide) ?_
      refine lv_goto (tgt := 29) hx hb dX7_isApart_25 (by decide) ?_
      exact hk29 (1 : Int32) ls (lv_sub hl [] rfl) hF
    clear e_k24
    refine lv_if_ne (tgt := 24) hx hb dX7_isApart_7 (by decide) (fun c0 => ?_) (fun c0 => ?_)
    · have c0 := (not_congr (lg_cmp_eq _ _)).mp c0
      have hF := if_f hF c0
      exact hk24 ls (lv_sub hl [] rfl) hF
    · have c0 := (lg_cmp_eq _ _).mp c0
      have hF := if_t hF c0
      refine lv_lload hx hb dX7_isApart_10 (lv_at hl 3 rfl) ?_
      refine lv_lconst (v := 0) hx hb dX7_isApart_12 (by decide) ?_
      refine W.lcmp hx hb dX7_isApart_13 ?_
      refine lv_if_ne (tgt := 24) hx hb dX7_isApart_14 (by decide) (fun c0 => ?_) (fun c0 => ?_)
      · have c0 := (not_congr (lg_cmp_eq _ _)).mp c0
        have hF := if_f hF c0
        exact hk24 ls (lv_sub hl [] rfl) hF
      · have c0 := (lg_cmp_eq _ _).mp c0
        have hF := if_t hF c0
        refine lv_lload hx hb dX7_isApart_17 (lv_at hl 4 rfl) ?_
        refine lv_lconst (v := 0) hx hb dX7_isApart_19 (by decide) ?_
        refine W.lcmp hx hb dX7_isApart_20 ?_
        refine lv_if_eq (tgt := 28) hx hb dX7_isApart_21 (by decide) (fun c0 => ?_) (fun c0 => ?_)
        · have c0 := (lg_cmp_eq _ _).mp c0
          have hF := if_t hF c0
          refine lv_iconst (v := 0) hx hb dX7_isApart_28 (by decide) ?_
          exact hk29 (0 : Int32) ls (lv_sub hl [] rfl) hF
        · have c0 := (not_congr (lg_cmp_eq _ _)).mp c0
          have hF := if_f hF c0
          exact hk24 ls (lv_sub hl [] rfl) hF
def fX7_findApart_L60 (r_3 : Int64) (k163 : (Int64) → (Nat → Int64) → Option (Int64 × (Nat → Int64))) (q : Nat → Int64) (x12_6 : Int64) (x14_10 : Int64) (p1 : Int64) (p0 : Int32) : Nat → (Int64) → (Int64) → (Nat → Int64) → Option (Int64 × (Nat → Int64))
  | 0, _, _, _ => none
  | n + 1, x4_13, x16_14, rows_15 => if r_3 < x16_14 then ((k163 x4_13 rows_15)) else (bd1 (fX7_valueOf q x12_6 x14_10 x16_14) (fun (r_16 : Int64) => nm (fun (x4_24 : Int64) (rows_25 : Nat → Int64) => nm (x16_14 + (1 : Int64)) (fun (x16_26 : Int64) => (fX7_findApart_L60 r_3 k163 q x12_6 x14_10 p1 p0 n x4_24 x16_26 rows_25))) (fun (k154 : (Int64) → (Nat → Int64) → Option (Int64 × (Nat → Int64))) => if p1 < r_16 then ((k154 x4_13 rows_15)) else (nm (bd1 (fX7_isApart rows_15 p0 x12_6 x14_10 x16_14) (fun (r_17 : Int32) => if r_17 = 0 then ((k154 x4_13 rows_15)) else (nm ((3 : Int32) * p0) (fun (v_18 : Int32) => if okI v_18 9 then nm (vp_updL rows_15 v_18.toNatClampNeg x12_6) (fun (rows_19 : Nat → Int64) => nm (((3 : Int32) * p0) + (1 : Int32)) (fun (v_20 : Int32) => if okI v_20 9 then nm (vp_updL rows_19 v_20.toNatClampNeg x14_10) (fun (rows_21 : Nat → Int64) => nm (((3 : Int32) * p0) + (2 : Int32)) (fun (v_22 : Int32) => if okI v_22 9 then nm (vp_updL rows_21 v_22.toNatClampNeg x16_14) (fun (rows_23 : Nat → Int64) => (k154 r_16 rows_23)) else none)) else none)) else none)))) (fun (k102 : Option (Int64 × (Nat → Int64))) => if x4_13 < (0 : Int64) then ((k102)) else (if x4_13 ≤ r_16 then ((k154 x4_13 rows_15)) else ((k102))))))))
def fX7_findApart_L47 (r_2 : Int64) (k172 : (Int64) → (Nat → Int64) → Option (Int64 × (Nat → Int64))) (r_3 : Int64) (q : Nat → Int64) (x12_6 : Int64) (p1 : Int64) (p0 : Int32) (fu : Nat) : Nat → (Int64) → (Int64) → (Nat → Int64) → Option (Int64 × (Nat → Int64))
  | 0, _, _, _ => none
  | n + 1, x4_9, x14_10, rows_11 => if r_2 < x14_10 then ((k172 x4_9 rows_11)) else (nm (-r_3) (fun (x16_12 : Int64) => nm (fun (x4_27 : Int64) (rows_28 : Nat → Int64) => nm (x14_10 + (1 : Int64)) (fun (x14_29 : Int64) => (fX7_findApart_L47 r_2 k172 r_3 q x12_6 p1 p0 fu n x4_27 x14_29 rows_28))) (fun (k163 : (Int64) → (Nat → Int64) → Option (Int64 × (Nat → Int64))) => (fX7_findApart_L60 r_3 k163 q x12_6 x14_10 p1 p0 fu x4_9 x16_12 rows_11))))
def fX7_findApart_L34 (r_1 : Int64) (r_2 : Int64) (r_3 : Int64) (q : Nat → Int64) (p1 : Int64) (p0 : Int32) (fu : Nat) : Nat → (Int64) → (Int64) → (Nat → Int64) → Option (Int64 × (Nat → Int64))
  | 0, _, _, _ => none
  | n + 1, x4_5, x12_6, rows_7 => if r_1 < x12_6 then (some (x4_5, rows_7)) else (nm (-r_2) (fun (x14_8 : Int64) => nm (fun (x4_30 : Int64) (rows_31 : Nat → Int64) => nm (x12_6 + (1 : Int64)) (fun (x12_32 : Int64) => (fX7_findApart_L34 r_1 r_2 r_3 q p1 p0 fu n x4_30 x12_32 rows_31))) (fun (k172 : (Int64) → (Nat → Int64) → Option (Int64 × (Nat → Int64))) => (fX7_findApart_L47 r_2 k172 r_3 q x12_6 p1 p0 fu fu x4_5 x14_8 rows_7))))
def fX7_findApart (fu : Nat) (q : Nat → Int64) (rows : Nat → Int64) (p0 : Int32) (p1 : Int64) : Option (Int64 × (Nat → Int64)) :=
  bd1 (fX7_reach fu q (0 : Int32) p1) (fun (r_1 : Int64) => bd1 (fX7_reach fu q (1 : Int32) p1) (fun (r_2 : Int64) => bd1 (fX7_reach fu q (2 : Int32) p1) (fun (r_3 : Int64) => nm (-r_1) (fun (x12_4 : Int64) => (fX7_findApart_L34 r_1 r_2 r_3 q p1 p0 fu fu (-1 : Int64) x12_4 rows)))))
def lkX7_findApart : List Cond := [.constantLong RX7 96 (-1), .fieldLink RX7 30 "KinFormsModel" "rows" "[J"]
def vX7_findApart : List Cond := .code yX7_findApart cX7_findApart 20 (some .long) :: (lkX7_findApart ++ (wsX70 ++ (wsV RX7 98 RX7 yX7_reach vX7_reach ++ (wsV RX7 66 RX7 yX7_valueOf vX7_valueOf ++ (wsV RX7 102 RX7 yX7_isApart vX7_isApart ++ ([]))))))
theorem q_X7_findApart : ∀ w ∈ vX7_findApart, goodWord w = true := gd_cons rfl (gd_app (by decide +kernel) (gd_app q_wsX70 (gd_app (gd_V q_X7_reach) (gd_app (gd_V q_X7_valueOf) (gd_app (gd_V q_X7_isApart) gd_nil)))))
theorem g_X7_findApart_X7_reach : GoodIn vX7_findApart (wsV RX7 98 RX7 yX7_reach vX7_reach) := gi_of (fun w h => List.mem_cons_of_mem _ (List.mem_append_right _ (List.mem_append_right _ (List.mem_append_left _ h)))) (gd_V q_X7_reach)
theorem g_X7_findApart_X7_valueOf : GoodIn vX7_findApart (wsV RX7 66 RX7 yX7_valueOf vX7_valueOf) := gi_of (fun w h => List.mem_cons_of_mem _ (List.mem_append_right _ (List.mem_append_right _ (List.mem_append_right _ (List.mem_append_left _ h))))) (gd_V q_X7_valueOf)
theorem g_X7_findApart_X7_isApart : GoodIn vX7_findApart (wsV RX7 102 RX7 yX7_isApart vX7_isApart) := gi_of (fun w h => List.mem_cons_of_mem _ (List.mem_append_right _ (List.mem_append_right _ (List.mem_append_right _ (List.mem_append_right _ (List.mem_append_left _ h)))))) (gd_V q_X7_isApart)
abbrev rmX7_findApart : Room := { frames := 2, cells := 0, slots := 0, locals := 65 }
set_option maxHeartbeats 4000000 in
set_option maxRecDepth 100000 in
theorem c_X7_findApart (l : Launch) (dC : Nat → ClassId) (dI : Nat → Nat → Nat) (cI : ClassId) (cJ : ClassId) (h : Nat) (a : Nat → Nat) (fu : Nat) (sz : Nat) (forms : Int32) (prime : Int32) (turns : Int32) (lineT : Int32) (lineU : Int32) (kinds : Int32) (upper : Int64) (lower : Int64) (numbers : Nat → Int32) (q : Nat → Int64) (base : Nat → Int64) (least : Nat → Int64) (table : Nat → Int64) (rows : Nat → Int64) (lists : Nat → Int64) (listSize : Nat → Int32) (tried : Nat → Int64) (other : Nat → Int64) (line : Nat → Int64) (makers : Nat → Int64) (touches : Nat → Int64) (made : Nat → Int64) (kindForm : Nat → Int64) (kindTurns : Nat → Int32) (kindWays : Nat → Int32) (p0 : Int32) (p1 : Int64) (ro : Int64) (o_rows : Nat → Int64) (hF : fX7_findApart fu q rows p0 p1 = some (ro, o_rows)) : Met l yX7_findApart vX7_findApart rmX7_findApart (va_Pc [.ref h, .int p0, .long p1] (mPc (dC, dI) vwCl (mW cI cJ h a forms prime turns lineT lineU kinds upper lower numbers q base least table rows lists listSize tried other line makers touches made kindForm kindTurns kindWays) [(cI, .int), (cJ, .long)] sz)) (va_Ql (fun x (_ : Unit) => x = ro) (mPo (dC, dI) vwCl (mW cI cJ h a forms prime turns lineT lineU kinds upper lower numbers q base least table o_rows lists listSize tried other line makers touches made kindForm kindTurns kindWays) [(cI, .int), (cJ, .long)] (va_A (mW cI cJ h a forms prime turns lineT lineU kinds upper lower numbers q base least table rows lists listSize tried other line makers touches made kindForm kindTurns kindWays) sz)) (va_A (mW cI cJ h a forms prime turns lineT lineU kinds upper lower numbers q base least table rows lists listSize tried other line makers touches made kindForm kindTurns kindWays) sz)) 0 0 (va_A (mW cI cJ h a forms prime turns lineT lineU kinds upper lower numbers q base least table rows lists listSize tried other line makers touches made kindForm kindTurns kindWays) sz) := by
  refine Met.ofW (cc := cX7_findApart) (maxL := 20) (ret := (some .long)) (by decide) rfl ?_
  intro p e s m args below meth c s₁ B hml hv
  obtain ⟨rfl, hsz, hP, hK, hD0⟩ := hv
  have hx := B.exec
  have hb := B.bytes
  have hr := B.returns
  have hts := atoms_spec (ws := vX7_findApart) B.pre
  have hlk : ∀ w ∈ lkX7_findApart, w.before _ s = true := fun w h => hts w (List.mem_cons_of_mem _ (List.mem_append_left _ h))
  have hown : s.vm.findClass RX7 = some m.cls := findClass_of_methodNamed B.named
  have hlocks := B.notSynchronized
  subst hsz
  have hD := hD0.self (sz := s.heap.size)
  generalize hAe : va_A (mW cI cJ h a forms prime turns lineT lineU kinds upper lower numbers q base least table rows lists listSize tried other line makers touches made kindForm kindTurns kindWays) s.heap.size = A at hD ⊢
  have hA : ∀ q : Nat, s.heap.size ≤ q → A q := fun q h => by rw [← hAe]; exact Or.inr h
  have hS : va_S A s.heap s.heap [] := va_S.rf
  have hinX7 : ∀ w ∈ wsX70, w ∈ vX7_findApart := fun w h => List.mem_cons_of_mem _ (List.mem_append_right _ (List.mem_append_left _ h))
  have hf_30 := hlk (.fieldLink RX7 30 "KinFormsModel" "rows" "[J") (by decide +kernel)
  have hl := lv_entry ([.ref h, .int p0, .long p1] : List Value) (n := 20) (Nat.le_of_ble_eq_true rfl)
  rw [lg_entry_eq]
  generalize (lg_sl ([.ref h, .int p0, .long p1] : List Value) ++ List.replicate (20 - (lg_sl ([.ref h, .int p0, .long p1] : List Value)).length) Slot.unset).toArray = ls at hl ⊢
  have hl : lv_has ls 20 [(0, .ref h), (1, .int p0), (2, .long p1)] := hl
  unfold fX7_findApart at hF
  refine W_Q (fun Q hQ => ?_)
  have hP : va_P (dC, dI) vwCl (mW cI cJ h a forms prime turns lineT lineU kinds upper lower numbers q base least table rows lists listSize tried other line makers touches made kindForm kindTurns kindWays) s.heap := hP
  refine W_HL (fun H locs eH eL => ?_)
  rw [← eH] at hP
  have hS : va_S A s.heap H locs := by rw [eH, eL]; exact hS
  refine lv_ldc2 (v := (-1)) hx hb hown (hlk (.constantLong RX7 96 (-1)) (by decide +kernel)) dX7_findApart_0 ?_
  refine lv_lstore (lv' := [(4, .long (-1 : Int64)), (0, .ref h), (1, .int p0), (2, .long p1)]) hx hb dX7_findApart_3 hl (by decide) rfl (fun ls hl => ?_)
  refine lv_aload_n hx hb dX7_findApart_5 rfl (lv_at hl 1 rfl) ?_
  refine lv_iconst (v := 0) hx hb dX7_findApart_6 (by decide) ?_
  refine lv_lload_n hx hb dX7_findApart_7 rfl (lv_at hl 3 rfl) ?_
  obtain ⟨r_1, hc, hF⟩ := bd1_of hF
  refine rc_l (va_runV (As := [.int (0 : Int32), .long p1]) (rest := []) ⟨hx, hb, hml, hown, hts⟩ (c_X7_reach l dC dI cI cJ h a fu forms prime turns lineT lineU kinds upper lower numbers q base least table rows lists listSize tried other line makers touches made kindForm kindTurns kindWays (0 : Int32) p1 r_1 hc) (cwV 2 hts g_X7_findApart_X7_reach rfl rfl rfl (by decide +kernel) ⟨Nat.le_of_ble_eq_true rfl, Nat.le_of_ble_eq_true rfl⟩) ⟨rPc_blind, va_recv hK hP (ci := 5) (q0 := 0) rfl rfl, rPc_at hK hP⟩ rfl rfl hl.1 rfl (lv_room (Nat.le_of_ble_eq_true rfl)) dX7_findApart_8 ⟨Nat.zero_le _, Nat.zero_le _⟩) ?_
  refine lv_lstore (lv' := [(6, .long r_1), (4, .long (-1 : Int64)), (0, .ref h), (1, .int p0), (2, .long p1)]) hx hb dX7_findApart_11 hl (by decide) rfl (fun ls hl => ?_)
  refine lv_aload_n hx hb dX7_findApart_13 rfl (lv_at hl 2 rfl) ?_
  refine lv_iconst (v := 1) hx hb dX7_findApart_14 (by decide) ?_
  refine lv_lload_n hx hb dX7_findApart_15 rfl (lv_at hl 4 rfl) ?_
  obtain ⟨r_2, hc, hF⟩ := bd1_of hF
  refine rc_l (va_runV (As := [.int (1 : Int32), .long p1]) (rest := []) ⟨hx, hb, hml, hown, hts⟩ (c_X7_reach l dC dI cI cJ h a fu forms prime turns lineT lineU kinds upper lower numbers q base least table rows lists listSize tried other line makers touches made kindForm kindTurns kindWays (1 : Int32) p1 r_2 hc) (cwV 2 hts g_X7_findApart_X7_reach rfl rfl rfl (by decide +kernel) ⟨Nat.le_of_ble_eq_true rfl, Nat.le_of_ble_eq_true rfl⟩) ⟨rPc_blind, va_recv hK hP (ci := 5) (q0 := 0) rfl rfl, rPc_at hK hP⟩ rfl rfl hl.1 rfl (lv_room (Nat.le_of_ble_eq_true rfl)) dX7_findApart_16 ⟨Nat.zero_le _, Nat.zero_le _⟩) ?_
  refine lv_lstore (lv' := [(8, .long r_2), (6, .long r_1), (4, .long (-1 : Int64)), (0, .ref h), (1, .int p0), (2, .long p1)]) hx hb dX7_findApart_19 hl (by decide) rfl (fun ls hl => ?_)
  refine lv_aload_n hx hb dX7_findApart_21 rfl (lv_at hl 3 rfl) ?_
  refine lv_iconst (v := 2) hx hb dX7_findApart_22 (by decide) ?_
  refine lv_lload_n hx hb dX7_findApart_23 rfl (lv_at hl 5 rfl) ?_
  obtain ⟨r_3, hc, hF⟩ := bd1_of hF
  refine rc_l (va_runV (As := [.int (2 : Int32), .long p1]) (rest := []) ⟨hx, hb, hml, hown, hts⟩ (c_X7_reach l dC dI cI cJ h a fu forms prime turns lineT lineU kinds upper lower numbers q base least table rows lists listSize tried other line makers touches made kindForm kindTurns kindWays (2 : Int32) p1 r_3 hc) (cwV 2 hts g_X7_findApart_X7_reach rfl rfl rfl (by decide +kernel) ⟨Nat.le_of_ble_eq_true rfl, Nat.le_of_ble_eq_true rfl⟩) ⟨rPc_blind, va_recv hK hP (ci := 5) (q0 := 0) rfl rfl, rPc_at hK hP⟩ rfl rfl hl.1 rfl (lv_room (Nat.le_of_ble_eq_true rfl)) dX7_findApart_24 ⟨Nat.zero_le _, Nat.zero_le _⟩) ?_
  refine lv_lstore (lv' := [(10, .long r_3), (8, .long r_2), (6, .long r_1), (4, .long (-1 : Int64)), (0, .ref h), (1, .int p0), (2, .long p1)]) hx hb dX7_findApart_27 hl (by decide) rfl (fun ls hl => ?_)
  refine lv_lload hx hb dX7_findApart_29 (lv_at hl 2 rfl) ?_
  refine lv_lneg hx hb dX7_findApart_31 ?_
  refine lv_topl (fun x12_4 e_x12_4 => ?_)
  have hF := nm_at hF e_x12_4
  refine lv_lstore (lv' := [(12, .long x12_4), (10, .long r_3), (8, .long r_2), (6, .long r_1), (4, .long (-1 : Int64)), (0, .ref h), (1, .int p0), (2, .long p1)]) hx hb dX7_findApart_32 hl (by decide) rfl (fun ls hl => ?_)
  have hL34 : ∀ n : Nat, ∀ (x4_5 : Int64) (x12_6 : Int64) (rows_7 : Nat → Int64) (H : Heap) (locs : List Loc) (ls : Array Slot), va_P (dC, dI) vwCl (mW cI cJ h a forms prime turns lineT lineU kinds upper lower numbers q base least table rows_7 lists listSize tried other line makers touches made kindForm kindTurns kindWays) H → va_D A (mW cI cJ h a forms prime turns lineT lineU kinds upper lower numbers q base least table rows_7 lists listSize tried other line makers touches made kindForm kindTurns kindWays) → va_S A s.heap H locs → lv_has ls 20 [(0, .ref h), (1, .int p0), (2, .long p1), (4, .long x4_5), (6, .long r_1), (8, .long r_2), (10, .long r_3), (12, .long x12_6)] → fX7_findApart_L34 r_1 r_2 r_3 q p1 p0 fu n x4_5 x12_6 rows_7 = some (ro, o_rows) → W p l e rmX7_findApart s m ([.ref h, .int p0, .long p1] : List Value).toArray below meth c H locs 0 0 Q (F0 m 34 ls []) := by
    intro n
    induction n with
    | zero => intro x4_5 x12_6 rows_7 H locs ls hP hD hS hl hF; rw [fX7_findApart_L34] at hF; cases hF
    | succ n ih34 =>
      intro x4_5 x12_6 rows_7 H locs ls hP hD hS hl hF
      rw [fX7_findApart_L34] at hF
      refine lv_lload hx hb dX7_findApart_34 (lv_at hl 7 rfl) ?_
      refine lv_lload hx hb dX7_findApart_36 (lv_at hl 4 rfl) ?_
      refine W.lcmp hx hb dX7_findApart_38 ?_
      refine lv_if_gt (tgt := 181) hx hb dX7_findApart_39 (by decide) (fun c0 => ?_) (fun c0 => ?_)
      · have c0 := (lg_cmp_gt _ _).mp c0
        have hF := if_t hF c0
        refine lv_lload hx hb dX7_findApart_181 (lv_at hl 3 rfl) ?_
        obtain ⟨q0, q1⟩ := sm2 hF
        have hP : va_P (dC, dI) vwCl (mW cI cJ h a forms prime turns lineT lineU kinds upper lower numbers q base least table o_rows lists listSize tried other line makers touches made kindForm kindTurns kindWays) H := by rw [← q1]; exact hP
        have hD : va_D A (mW cI cJ h a forms prime turns lineT lineU kinds upper lower numbers q base least table o_rows lists listSize tried other line makers touches made kindForm kindTurns kindWays) := by rw [← q1]; exact hD
        refine W_Qe hQ ?_
        exact W.lret hx hb hr (fun t ht hW => ⟨⟨x4_5, (), rfl, q0, by rw [ht]; exact hP, va_K.moved hW.alike hK, hD⟩, hS.F ht⟩) hS.2.2 dX7_findApart_183
      · have c0 := (not_congr (lg_cmp_gt _ _)).mp c0
        have hF := if_f hF c0
        refine lv_lload hx hb dX7_findApart_42 (lv_at hl 5 rfl) ?_
        refine lv_lneg hx hb dX7_findApart_44 ?_
        refine lv_topl (fun x14_8 e_x14_8 => ?_)
        have hF := nm_at hF e_x14_8
        refine lv_lstore (lv' := [(14, .long x14_8), (0, .ref h), (1, .int p0), (2, .long p1), (4, .long x4_5), (6, .long r_1), (8, .long r_2), (10, .long r_3), (12, .long x12_6)]) hx hb dX7_findApart_45 hl (by decide) rfl (fun ls hl => ?_)
        obtain ⟨k172, e_k172, hF⟩ := nm_ex hF
        have hk172 : ∀ (x4_30 : Int64) (rows_31 : Nat → Int64) (H : Heap) (locs : List Loc) (ls : Array Slot), va_P (dC, dI) vwCl (mW cI cJ h a forms prime turns lineT lineU kinds upper lower numbers q base least table rows_31 lists listSize tried other line makers touches made kindForm kindTurns kindWays) H → va_D A (mW cI cJ h a forms prime turns lineT lineU kinds upper lower numbers q base least table rows_31 lists listSize tried other line makers touches made kindForm kindTurns kindWays) → va_S A s.heap H locs → lv_has ls 20 [(0, .ref h), (1, .int p0), (2, .long p1), (4, .long x4_30), (6, .long r_1), (8, .long r_2), (10, .long r_3), (12, .long x12_6)] → k172 x4_30 rows_31 = some (ro, o_rows) → W p l e rmX7_findApart s m ([.ref h, .int p0, .long p1] : List Value).toArray below meth c H locs 0 0 Q (F0 m 172 ls []) := by
          intro x4_30 rows_31 H locs ls hP hD hS hl hF
          have hF := ka2 e_k172 hF
          refine lv_lload hx hb dX7_findApart_172 (lv_at hl 7 rfl) ?_
          refine lv_lconst (v := 1) hx hb dX7_findApart_174 (by decide) ?_
          refine lv_ladd hx hb dX7_findApart_175 ?_
          refine lv_topl (fun x12_32 e_x12_32 => ?_)
          have hF := nm_at hF e_x12_32
          refine lv_lstore (lv' := [(12, .long x12_32), (0, .ref h), (1, .int p0), (2, .long p1), (4, .long x4_30), (6, .long r_1), (8, .long r_2), (10, .long r_3)]) hx hb dX7_findApart_176 hl (by decide) rfl (fun ls hl => ?_)
          refine lv_goto (tgt := 34) hx hb dX7_findApart_178 (by decide) ?_
          exact ih34 x4_30 x12_32 rows_31 H locs ls hP hD hS (lv_sub hl [1, 2, 3, 4, 5, 6, 7, 0] rfl) hF
        clear e_k172
        have hL47 : ∀ n : Nat, ∀ (x4_9 : Int64) (x14_10 : Int64) (rows_11 : Nat → Int64) (H : Heap) (locs : List Loc) (ls : Array Slot), va_P (dC, dI) vwCl (mW cI cJ h a forms prime turns lineT lineU kinds upper lower numbers q base least table rows_11 lists listSize tried other line makers touches made kindForm kindTurns kindWays) H → va_D A (mW cI cJ h a forms prime turns lineT lineU kinds upper lower numbers q base least table rows_11 lists listSize tried other line makers touches made kindForm kindTurns kindWays) → va_S A s.heap H locs → lv_has ls 20 [(0, .ref h), (1, .int p0), (2, .long p1), (4, .long x4_9), (6, .long r_1), (8, .long r_2), (10, .long r_3), (12, .long x12_6), (14, .long x14_10)] → fX7_findApart_L47 r_2 k172 r_3 q x12_6 p1 p0 fu n x4_9 x14_10 rows_11 = some (ro, o_rows) → W p l e rmX7_findApart s m ([.ref h, .int p0, .long p1] : List Value).toArray below meth c H locs 0 0 Q (F0 m 47 ls []) := by
          intro n
          induction n with
          | zero => intro x4_9 x14_10 rows_11 H locs ls hP hD hS hl hF; rw [fX7_findApart_L47] at hF; cases hF
          | succ n ih47 =>
            intro x4_9 x14_10 rows_11 H locs ls hP hD hS hl hF
            rw [fX7_findApart_L47] at hF
            refine lv_lload hx hb dX7_findApart_47 (lv_at hl 8 rfl) ?_
            refine lv_lload hx hb dX7_findApart_49 (lv_at hl 5 rfl) ?_
            refine W.lcmp hx hb dX7_findApart_51 ?_
            refine lv_if_gt (tgt := 172) hx hb dX7_findApart_52 (by decide) (fun c0 => ?_) (fun c0 => ?_)
            · have c0 := (lg_cmp_gt _ _).mp c0
              have hF := if_t hF c0
              exact hk172 x4_9 rows_11 H locs ls hP hD hS (lv_sub hl [0, 1, 2, 3, 4, 5, 6, 7] rfl) hF
            · have c0 := (not_congr (lg_cmp_gt _ _)).mp c0
              have hF := if_f hF c0
              refine lv_lload hx hb dX7_findApart_55 (lv_at hl 6 rfl) ?_
              refine lv_lneg hx hb dX7_findApart_57 ?_
              refine lv_topl (fun x16_12 e_x16_12 => ?_)
              have hF := nm_at hF e_x16_12
              refine lv_lstore (lv' := [(16, .long x16_12), (0, .ref h), (1, .int p0), (2, .long p1), (4, .long x4_9), (6, .long r_1), (8, .long r_2), (10, .long r_3), (12, .long x12_6), (14, .long x14_10)]) hx hb dX7_findApart_58 hl (by decide) rfl (fun ls hl => ?_)
              obtain ⟨k163, e_k163, hF⟩ := nm_ex hF
              have hk163 : ∀ (x4_27 : Int64) (rows_28 : Nat → Int64) (H : Heap) (locs : List Loc) (ls : Array Slot), va_P (dC, dI) vwCl (mW cI cJ h a forms prime turns lineT lineU kinds upper lower numbers q base least table rows_28 lists listSize tried other line makers touches made kindForm kindTurns kindWays) H → va_D A (mW cI cJ h a forms prime turns lineT lineU kinds upper lower numbers q base least table rows_28 lists listSize tried other line makers touches made kindForm kindTurns kindWays) → va_S A s.heap H locs → lv_has ls 20 [(0, .ref h), (1, .int p0), (2, .long p1), (4, .long x4_27), (6, .long r_1), (8, .long r_2), (10, .long r_3), (12, .long x12_6), (14, .long x14_10)] → k163 x4_27 rows_28 = some (ro, o_rows) → W p l e rmX7_findApart s m ([.ref h, .int p0, .long p1] : List Value).toArray below meth c H locs 0 0 Q (F0 m 163 ls []) := by
                intro x4_27 rows_28 H locs ls hP hD hS hl hF
                have hF := ka2 e_k163 hF
                refine lv_lload hx hb dX7_findApart_163 (lv_at hl 8 rfl) ?_
                refine lv_lconst (v := 1) hx hb dX7_findApart_165 (by decide) ?_
                refine lv_ladd hx hb dX7_findApart_166 ?_
                refine lv_topl (fun x14_29 e_x14_29 => ?_)
                have hF := nm_at hF e_x14_29
                refine lv_lstore (lv' := [(14, .long x14_29), (0, .ref h), (1, .int p0), (2, .long p1), (4, .long x4_27), (6, .long r_1), (8, .long r_2), (10, .long r_3), (12, .long x12_6)]) hx hb dX7_findApart_167 hl (by decide) rfl (fun ls hl => ?_)
                refine lv_goto (tgt := 47) hx hb dX7_findApart_169 (by decide) ?_
                exact ih47 x4_27 x14_29 rows_28 H locs ls hP hD hS (lv_sub hl [1, 2, 3, 4, 5, 6, 7, 8, 0] rfl) hF
              clear e_k163
              have hL60 : ∀ n : Nat, ∀ (x4_13 : Int64) (x16_14 : Int64) (rows_15 : Nat → Int64) (H : Heap) (locs : List Loc) (ls : Array Slot), va_P (dC, dI) vwCl (mW cI cJ h a forms prime turns lineT lineU kinds upper lower numbers q base least table rows_15 lists listSize tried other line makers touches made kindForm kindTurns kindWays) H → va_D A (mW cI cJ h a forms prime turns lineT lineU kinds upper lower numbers q base least table rows_15 lists listSize tried other line makers touches made kindForm kindTurns kindWays) → va_S A s.heap H locs → lv_has ls 20 [(0, .ref h), (1, .int p0), (2, .long p1), (4, .long x4_13), (6, .long r_1), (8, .long r_2), (10, .long r_3), (12, .long x12_6), (14, .long x14_10), (16, .long x16_14)] → fX7_findApart_L60 r_3 k163 q x12_6 x14_10 p1 p0 n x4_13 x16_14 rows_15 = some (ro, o_rows) → W p l e rmX7_findApart s m ([.ref h, .int p0, .long p1] : List Value).toArray below meth c H locs 0 0 Q (F0 m 60 ls []) := by
                intro n
                induction n with
                | zero => intro x4_13 x16_14 rows_15 H locs ls hP hD hS hl hF; rw [fX7_findApart_L60] at hF; cases hF
                | succ n ih60 =>
                  intro x4_13 x16_14 rows_15 H locs ls hP hD hS hl hF
                  rw [fX7_findApart_L60] at hF
                  refine lv_lload hx hb dX7_findApart_60 (lv_at hl 9 rfl) ?_
                  refine lv_lload hx hb dX7_findApart_62 (lv_at hl 6 rfl) ?_
                  refine W.lcmp hx hb dX7_findApart_64 ?_
                  refine lv_if_gt (tgt := 163) hx hb dX7_findApart_65 (by decide) (fun c0 => ?_) (fun c0 => ?_)
                  · have c0 := (lg_cmp_gt _ _).mp c0
                    have hF := if_t hF c0
                    exact hk163 x4_13 rows_15 H locs ls hP hD hS (lv_sub hl [0, 1, 2, 3, 4, 5, 6, 7, 8] rfl) hF
                  · have c0 := (not_congr (lg_cmp_gt _ _)).mp c0
                    have hF := if_f hF c0
                    refine lv_aload_n hx hb dX7_findApart_68 rfl (lv_at hl 0 rfl) ?_
                    refine lv_lload hx hb dX7_findApart_69 (lv_at hl 7 rfl) ?_
                    refine lv_lload hx hb dX7_findApart_71 (lv_at hl 8 rfl) ?_
                    refine lv_lload hx hb dX7_findApart_73 (lv_at hl 9 rfl) ?_
                    obtain ⟨r_16, hc, hF⟩ := bd1_of hF
                    refine rc_l (va_runV (As := [.long x12_6, .long x14_10, .long x16_14]) (rest := []) ⟨hx, hb, hml, hown, hts⟩ (c_X7_valueOf l dC dI cI cJ h a forms prime turns lineT lineU kinds upper lower numbers q base least table rows_15 lists listSize tried other line makers touches made kindForm kindTurns kindWays x12_6 x14_10 x16_14 r_16 hc) (cwV 3 hts g_X7_findApart_X7_valueOf rfl rfl rfl (by decide +kernel) ⟨Nat.le_of_ble_eq_true rfl, Nat.le_of_ble_eq_true rfl⟩) ⟨rPc_blind, va_recv hK hP (ci := 5) (q0 := 0) rfl rfl, rPc_at hK hP⟩ rfl rfl hl.1 rfl (lv_room (Nat.le_of_ble_eq_true rfl)) dX7_findApart_75 ⟨Nat.zero_le _, Nat.zero_le _⟩) ?_
                    refine lv_lstore (lv' := [(18, .long r_16), (0, .ref h), (1, .int p0), (2, .long p1), (4, .long x4_13), (6, .long r_1), (8, .long r_2), (10, .long r_3), (12, .long x12_6), (14, .long x14_10), (16, .long x16_14)]) hx hb dX7_findApart_78 hl (by decide) rfl (fun ls hl => ?_)
                    refine lv_lload hx hb dX7_findApart_80 (lv_at hl 0 rfl) ?_
                    refine lv_lload_n hx hb dX7_findApart_82 rfl (lv_at hl 3 rfl) ?_
                    refine W.lcmp hx hb dX7_findApart_83 ?_
                    obtain ⟨k154, e_k154, hF⟩ := nm_ex hF
                    have hk154 : ∀ (x4_24 : Int64) (rows_25 : Nat → Int64) (H : Heap) (locs : List Loc) (ls : Array Slot), va_P (dC, dI) vwCl (mW cI cJ h a forms prime turns lineT lineU kinds upper lower numbers q base least table rows_25 lists listSize tried other line makers touches made kindForm kindTurns kindWays) H → va_D A (mW cI cJ h a forms prime turns lineT lineU kinds upper lower numbers q base least table rows_25 lists listSize tried other line makers touches made kindForm kindTurns kindWays) → va_S A s.heap H locs → lv_has ls 20 [(0, .ref h), (1, .int p0), (2, .long p1), (4, .long x4_24), (6, .long r_1), (8, .long r_2), (10, .long r_3), (12, .long x12_6), (14, .long x14_10), (16, .long x16_14)] → k154 x4_24 rows_25 = some (ro, o_rows) → W p l e rmX7_findApart s m ([.ref h, .int p0, .long p1] : List Value).toArray below meth c H locs 0 0 Q (F0 m 154 ls []) := by
                      intro x4_24 rows_25 H locs ls hP hD hS hl hF
                      have hF := ka2 e_k154 hF
                      refine lv_lload hx hb dX7_findApart_154 (lv_at hl 9 rfl) ?_
                      refine lv_lconst (v := 1) hx hb dX7_findApart_156 (by decide) ?_
                      refine lv_ladd hx hb dX7_findApart_157 ?_
                      refine lv_topl (fun x16_26 e_x16_26 => ?_)
                      have hF := nm_at hF e_x16_26
                      refine lv_lstore (lv' := [(16, .long x16_26), (0, .ref h), (1, .int p0), (2, .long p1), (4, .long x4_24), (6, .long r_1), (8, .long r_2), (10, .long r_3), (12, .long x12_6), (14, .long x14_10)]) hx hb dX7_findApart_158 hl (by decide) rfl (fun ls hl => ?_)
                      refine lv_goto (tgt := 60) hx hb dX7_findApart_160 (by decide) ?_
                      exact ih60 x4_24 x16_26 rows_25 H locs ls hP hD hS (lv_sub hl [1, 2, 3, 4, 5, 6, 7, 8, 9, 0] rfl) hF
                    clear e_k154
                    refine lv_if_gt (tgt := 154) hx hb dX7_findApart_84 (by decide) (fun c0 => ?_) (fun c0 => ?_)
                    · have c0 := (lg_cmp_gt _ _).mp c0
                      have hF := if_t hF c0
                      exact hk154 x4_13 rows_15 H locs ls hP hD hS (lv_sub hl [1, 2, 3, 4, 5, 6, 7, 8, 9, 10] rfl) hF
                    · have c0 := (not_congr (lg_cmp_gt _ _)).mp c0
                      have hF := if_f hF c0
                      refine lv_lload hx hb dX7_findApart_87 (lv_at hl 4 rfl) ?_
                      refine lv_lconst (v := 0) hx hb dX7_findApart_89 (by decide) ?_
                      refine W.lcmp hx hb dX7_findApart_90 ?_
                      obtain ⟨k102, e_k102, hF⟩ := nm_ex hF
                      have hk102 : ∀  (H : Heap) (locs : List Loc) (ls : Array Slot), va_P (dC, dI) vwCl (mW cI cJ h a forms prime turns lineT lineU kinds upper lower numbers q base least table rows_15 lists listSize tried other line makers touches made kindForm kindTurns kindWays) H → va_D A (mW cI cJ h a forms prime turns lineT lineU kinds upper lower numbers q base least table rows_15 lists listSize tried other line makers touches made kindForm kindTurns kindWays) → va_S A s.heap H locs → lv_has ls 20 [(0, .ref h), (1, .int p0), (2, .long p1), (4, .long x4_13), (6, .long r_1), (8, .long r_2), (10, .long r_3), (12, .long x12_6), (14, .long x14_10), (16, .long x16_14), (18, .long r_16)] → k102 = some (ro, o_rows) → W p l e rmX7_findApart s m ([.ref h, .int p0, .long p1] : List Value).toArray below meth c H locs 0 0 Q (F0 m 102 ls []) := by
                        intro H locs ls hP hD hS hl hF
                        have hF := ka0 e_k102 hF
                        refine lv_aload_n hx hb dX7_findApart_102 rfl (lv_at hl 0 rfl) ?_
                        refine lv_iload_n hx hb dX7_findApart_103 rfl (lv_at hl 1 rfl) ?_
                        refine lv_lload hx hb dX7_findApart_104 (lv_at hl 7 rfl) ?_
                        refine lv_lload hx hb dX7_findApart_106 (lv_at hl 8 rfl) ?_
                        refine lv_lload hx hb dX7_findApart_108 (lv_at hl 9 rfl) ?_
                        obtain ⟨r_17, hc, hF⟩ := bd1_of hF
                        refine rc_i (va_runV (As := [.int p0, .long x12_6, .long x14_10, .long x16_14]) (rest := []) ⟨hx, hb, hml, hown, hts⟩ (c_X7_isApart l dC dI cI cJ h a forms prime turns lineT lineU kinds upper lower numbers q base least table rows_15 lists listSize tried other line makers touches made kindForm kindTurns kindWays p0 x12_6 x14_10 x16_14 r_17 hc) (cwV 4 hts g_X7_findApart_X7_isApart rfl rfl rfl (by decide +kernel) ⟨Nat.le_of_ble_eq_true rfl, Nat.le_of_ble_eq_true rfl⟩) ⟨rPc_blind, va_recv hK hP (ci := 5) (q0 := 0) rfl rfl, rPc_at hK hP⟩ rfl rfl hl.1 rfl (lv_room (Nat.le_of_ble_eq_true rfl)) dX7_findApart_110 ⟨Nat.zero_le _, Nat.zero_le _⟩) ?_
                        refine lv_if_eq (tgt := 154) hx hb dX7_findApart_113 (by decide) (fun c0 => ?_) (fun c0 => ?_)
                        · have hF := if_t hF c0
                          exact hk154 x4_13 rows_15 H locs ls hP hD hS (lv_sub hl [0, 1, 2, 3, 4, 5, 6, 7, 8, 9] rfl) hF
                        · have hF := if_f hF c0
                          refine lv_lload hx hb dX7_findApart_116 (lv_at hl 10 rfl) ?_
                          refine lv_lstore (lv' := [(4, .long r_16), (0, .ref h), (1, .int p0), (2, .long p1), (6, .long r_1), (8, .long r_2), (10, .long r_3), (12, .long x12_6), (14, .long x14_10), (16, .long x16_14), (18, .long r_16)]) hx hb dX7_findApart_118 hl (by decide) rfl (fun ls hl => ?_)
                          refine lv_aload_n hx hb dX7_findApart_120 rfl (lv_at hl 1 rfl) ?_
                          refine va_get (D := (dC, dI)) (ci := 5) (v := .ref (a 6)) (C := RX7) (T := TX7) (N := 25) hx hb hts hinX7 hown hK hP 0 rfl rfl 8 (by decide) hf_30 (fun _ h9 => h9) rfl dX7_findApart_121 ?_
                          refine lv_iconst (v := 3) hx hb dX7_findApart_124 (by decide) ?_
                          refine lv_iload_n hx hb dX7_findApart_125 rfl (lv_at hl 2 rfl) ?_
                          refine lv_imul hx hb dX7_findApart_126 ?_
                          refine lv_lload hx hb dX7_findApart_127 (lv_at hl 7 rfl) ?_
                          obtain ⟨v_18, e_v_18, hF⟩ := nm_ex hF
                          rw [← e_v_18]
                          obtain ⟨hi, hF⟩ := ck_of hF
                          obtain ⟨rows_19, e_rows_19, hF⟩ := nm_ex hF
                          refine kc_last (j := v_18.toNatClampNeg) (g := rows_19) hx hb hK hP hD hS 6 1 rfl rfl rfl hi dX7_findApart_129 e_rows_19 (fun H locs hP hD hS => ?_)
                          have hP : va_P (dC, dI) vwCl (mW cI cJ h a forms prime turns lineT lineU kinds upper lower numbers q base least table rows_19 lists listSize tried other line makers touches made kindForm kindTurns kindWays) H := hP
                          have hD : va_D A (mW cI cJ h a forms prime turns lineT lineU kinds upper lower numbers q base least table rows_19 lists listSize tried other line makers touches made kindForm kindTurns kindWays) := hD
                          refine lv_aload_n hx hb dX7_findApart_130 rfl (lv_at hl 1 rfl) ?_
                          refine va_get (D := (dC, dI)) (ci := 5) (v := .ref (a 6)) (C := RX7) (T := TX7) (N := 25) hx hb hts hinX7 hown hK hP 0 rfl rfl 8 (by decide) hf_30 (fun _ h9 => h9) rfl dX7_findApart_131 ?_
                          refine lv_iconst (v := 3) hx hb dX7_findApart_134 (by decide) ?_
                          refine lv_iload_n hx hb dX7_findApart_135 rfl (lv_at hl 2 rfl) ?_
                          refine lv_imul hx hb dX7_findApart_136 ?_
                          refine lv_iconst (v := 1) hx hb dX7_findApart_137 (by decide) ?_
                          refine lv_iadd hx hb dX7_findApart_138 ?_
                          refine lv_lload hx hb dX7_findApart_139 (lv_at hl 8 rfl) ?_
                          obtain ⟨v_20, e_v_20, hF⟩ := nm_ex hF
                          rw [← e_v_20]
                          obtain ⟨hi, hF⟩ := ck_of hF
                          obtain ⟨rows_21, e_rows_21, hF⟩ := nm_ex hF
                          refine kc_last (j := v_20.toNatClampNeg) (g := rows_21) hx hb hK hP hD hS 6 1 rfl rfl rfl hi dX7_findApart_141 e_rows_21 (fun H locs hP hD hS => ?_)
                          have hP : va_P (dC, dI) vwCl (mW cI cJ h a forms prime turns lineT lineU kinds upper lower numbers q base least table rows_21 lists listSize tried other line makers touches made kindForm kindTurns kindWays) H := hP
                          have hD : va_D A (mW cI cJ h a forms prime turns lineT lineU kinds upper lower numbers q base least table rows_21 lists listSize tried other line makers touches made kindForm kindTurns kindWays) := hD
                          refine lv_aload_n hx hb dX7_findApart_142 rfl (lv_at hl 1 rfl) ?_
                          refine va_get (D := (dC, dI)) (ci := 5) (v := .ref (a 6)) (C := RX7) (T := TX7) (N := 25) hx hb hts hinX7 hown hK hP 0 rfl rfl 8 (by decide) hf_30 (fun _ h9 => h9) rfl dX7_findApart_143 ?_
                          refine lv_iconst (v := 3) hx hb dX7_findApart_146 (by decide) ?_
                          refine lv_iload_n hx hb dX7_findApart_147 rfl (lv_at hl 2 rfl) ?_
                          refine lv_imul hx hb dX7_findApart_148 ?_
                          refine lv_iconst (v := 2) hx hb dX7_findApart_149 (by decide) ?_
                          refine lv_iadd hx hb dX7_findApart_150 ?_
                          refine lv_lload hx hb dX7_findApart_151 (lv_at hl 9 rfl) ?_
                          obtain ⟨v_22, e_v_22, hF⟩ := nm_ex hF
                          rw [← e_v_22]
                          obtain ⟨hi, hF⟩ := ck_of hF
                          obtain ⟨rows_23, e_rows_23, hF⟩ := nm_ex hF
                          refine kc_last (j := v_22.toNatClampNeg) (g := rows_23) hx hb hK hP hD hS 6 1 rfl rfl rfl hi dX7_findApart_153 e_rows_23 (fun H locs hP hD hS => ?_)
                          have hP : va_P (dC, dI) vwCl (mW cI cJ h a forms prime turns lineT lineU kinds upper lower numbers q base least table rows_23 lists listSize tried other line makers touches made kindForm kindTurns kindWays) H := hP
                          have hD : va_D A (mW cI cJ h a forms prime turns lineT lineU kinds upper lower numbers q base least table rows_23 lists listSize tried other line makers touches made kindForm kindTurns kindWays) := hD
                          exact hk154 r_16 rows_23 H locs ls hP hD hS (lv_sub hl [1, 2, 3, 0, 4, 5, 6, 7, 8, 9] rfl) hF
                      clear e_k102
                      refine lv_if_lt (tgt := 102) hx hb dX7_findApart_91 (by decide) (fun c0 => ?_) (fun c0 => ?_)
                      · have c0 := (lg_cmp_lt _ _).mp c0
                        have hF := if_t hF c0
                        exact hk102 H locs ls hP hD hS (lv_sub hl [1, 2, 3, 4, 5, 6, 7, 8, 9, 10, 0] rfl) hF
                      · have c0 := (not_congr (lg_cmp_lt _ _)).mp c0
                        have hF := if_f hF c0
                        refine lv_lload hx hb dX7_findApart_94 (lv_at hl 0 rfl) ?_
                        refine lv_lload hx hb dX7_findApart_96 (lv_at hl 4 rfl) ?_
                        refine W.lcmp hx hb dX7_findApart_98 ?_
                        refine lv_if_ge (tgt := 154) hx hb dX7_findApart_99 (by decide) (fun c0 => ?_) (fun c0 => ?_)
                        · have c0 := (lg_cmp_ge _ _).mp c0
                          have hF := if_t hF c0
                          exact hk154 x4_13 rows_15 H locs ls hP hD hS (lv_sub hl [1, 2, 3, 4, 5, 6, 7, 8, 9, 10] rfl) hF
                        · have c0 := (not_congr (lg_cmp_ge _ _)).mp c0
                          have hF := if_f hF c0
                          exact hk102 H locs ls hP hD hS (lv_sub hl [1, 2, 3, 4, 5, 6, 7, 8, 9, 10, 0] rfl) hF
              exact hL60 fu x4_9 x16_12 rows_11 H locs ls hP hD hS (lv_sub hl [1, 2, 3, 4, 5, 6, 7, 8, 9, 0] rfl) hF
        exact hL47 fu x4_5 x14_8 rows_7 H locs ls hP hD hS (lv_sub hl [1, 2, 3, 4, 5, 6, 7, 8, 0] rfl) hF
  exact hL34 fu (-1 : Int64) x12_4 rows H locs ls hP hD hS (lv_sub hl [5, 6, 7, 4, 3, 2, 1, 0] rfl) hF
def fX7_listRows_L104 (k203 : (Nat → Int64) → (Nat → Int32) → Option ((Nat → Int64) × (Nat → Int32))) (r_21 : Int64) (x13_10 : Int64) (x15_14 : Int64) (x17_18 : Int64) (p0 : Int64) (p1 : Int64) (p2 : Int64) : Nat → (Int32) → (Nat → Int64) → (Nat → Int32) → Option ((Nat → Int64) × (Nat → Int32))
  | 0, _, _, _ => none
  | n + 1, x21_22, lists_23, listSize_24 => if (3 : Int32) ≤ x21_22 then ((k203 lists_23 listSize_24)) else (nm (fun (s_25 : Int64) => nm (fun (lists_33 : Nat → Int64) (listSize_34 : Nat → Int32) => nm (x21_22 + (1 : Int32)) (fun (x21_35 : Int32) => (fX7_listRows_L104 k203 r_21 x13_10 x15_14 x17_18 p0 p1 p2 n x21_35 lists_33 listSize_34))) (fun (k197 : (Nat → Int64) → (Nat → Int32) → Option ((Nat → Int64) × (Nat → Int32))) => if r_21 = s_25 then (if okI x21_22 3 then nm (((1800 : Int32) * x21_22) + ((3 : Int32) * (listSize_24 x21_22.toNatClampNeg))) (fun (x22_26 : Int32) => if okI x22_26 5400 then nm (vp_updL lists_23 x22_26.toNatClampNeg x13_10) (fun (lists_27 : Nat → Int64) => nm (x22_26 + (1 : Int32)) (fun (v_28 : Int32) => if okI v_28 5400 then nm (vp_updL lists_27 v_28.toNatClampNeg x15_14) (fun (lists_29 : Nat → Int64) => nm (x22_26 + (2 : Int32)) (fun (v_30 : Int32) => if okI v_30 5400 then nm (vp_updL lists_29 v_30.toNatClampNeg x17_18) (fun (lists_31 : Nat → Int64) => if okI x21_22 3 then if okI x21_22 3 then nm (upd listSize_24 x21_22.toNatClampNeg ((listSize_24 x21_22.toNatClampNeg) + (1 : Int32))) (fun (listSize_32 : Nat → Int32) => (k197 lists_31 listSize_32)) else none else none) else none)) else none)) else none) else none) else ((k197 lists_23 listSize_24)))) (fun (k133 : (Int64) → Option ((Nat → Int64) × (Nat → Int32))) => if x21_22 = 0 then ((k133 p0)) else (if x21_22 = (1 : Int32) then ((k133 p1)) else ((k133 p2)))))
def fX7_listRows_L81 (r_3 : Int64) (k212 : (Nat → Int64) → (Nat → Int32) → Option ((Nat → Int64) × (Nat → Int32))) (q : Nat → Int64) (x13_10 : Int64) (x15_14 : Int64) (p0 : Int64) (p1 : Int64) (p2 : Int64) (fu : Nat) : Nat → (Int64) → (Nat → Int64) → (Nat → Int32) → Option ((Nat → Int64) × (Nat → Int32))
  | 0, _, _, _ => none
  | n + 1, x17_18, lists_19, listSize_20 => if r_3 < x17_18 then ((k212 lists_19 listSize_20)) else (bd1 (fX7_valueOf q x13_10 x15_14 x17_18) (fun (r_21 : Int64) => nm (fun (lists_36 : Nat → Int64) (listSize_37 : Nat → Int32) => nm (x17_18 + (1 : Int64)) (fun (x17_38 : Int64) => (fX7_listRows_L81 r_3 k212 q x13_10 x15_14 p0 p1 p2 fu n x17_38 lists_36 listSize_37))) (fun (k203 : (Nat → Int64) → (Nat → Int32) → Option ((Nat → Int64) × (Nat → Int32))) => (fX7_listRows_L104 k203 r_21 x13_10 x15_14 x17_18 p0 p1 p2 fu (0 : Int32) lists_19 listSize_20))))
def fX7_listRows_L68 (r_2 : Int64) (k221 : (Nat → Int64) → (Nat → Int32) → Option ((Nat → Int64) × (Nat → Int32))) (r_3 : Int64) (q : Nat → Int64) (x13_10 : Int64) (p0 : Int64) (p1 : Int64) (p2 : Int64) (fu : Nat) : Nat → (Int64) → (Nat → Int64) → (Nat → Int32) → Option ((Nat → Int64) × (Nat → Int32))
  | 0, _, _, _ => none
  | n + 1, x15_14, lists_15, listSize_16 => if r_2 < x15_14 then ((k221 lists_15 listSize_16)) else (nm (-r_3) (fun (x17_17 : Int64) => nm (fun (lists_39 : Nat → Int64) (listSize_40 : Nat → Int32) => nm (x15_14 + (1 : Int64)) (fun (x15_41 : Int64) => (fX7_listRows_L68 r_2 k221 r_3 q x13_10 p0 p1 p2 fu n x15_41 lists_39 listSize_40))) (fun (k212 : (Nat → Int64) → (Nat → Int32) → Option ((Nat → Int64) × (Nat → Int32))) => (fX7_listRows_L81 r_3 k212 q x13_10 x15_14 p0 p1 p2 fu fu x17_17 lists_15 listSize_16))))
def fX7_listRows_L55 (r_1 : Int64) (r_2 : Int64) (r_3 : Int64) (q : Nat → Int64) (p0 : Int64) (p1 : Int64) (p2 : Int64) (fu : Nat) : Nat → (Int64) → (Nat → Int64) → (Nat → Int32) → Option ((Nat → Int64) × (Nat → Int32))
  | 0, _, _, _ => none
  | n + 1, x13_10, lists_11, listSize_12 => if r_1 < x13_10 then (some (lists_11, listSize_12)) else (nm (-r_2) (fun (x15_13 : Int64) => nm (fun (lists_42 : Nat → Int64) (listSize_43 : Nat → Int32) => nm (x13_10 + (1 : Int64)) (fun (x13_44 : Int64) => (fX7_listRows_L55 r_1 r_2 r_3 q p0 p1 p2 fu n x13_44 lists_42 listSize_43))) (fun (k221 : (Nat → Int64) → (Nat → Int32) → Option ((Nat → Int64) × (Nat → Int32))) => (fX7_listRows_L68 r_2 k221 r_3 q x13_10 p0 p1 p2 fu fu x15_13 lists_11 listSize_12))))
def fX7_listRows_L30 (k50 : (Nat → Int32) → Option ((Nat → Int64) × (Nat → Int32))) : Nat → (Int32) → (Nat → Int32) → Option ((Nat → Int64) × (Nat → Int32))
  | 0, _, _ => none
  | n + 1, x13_4, listSize_5 => if (3 : Int32) ≤ x13_4 then ((k50 listSize_5)) else (if okI x13_4 3 then nm (upd listSize_5 x13_4.toNatClampNeg (0 : Int32)) (fun (listSize_6 : Nat → Int32) => nm (x13_4 + (1 : Int32)) (fun (x13_7 : Int32) => (fX7_listRows_L30 k50 n x13_7 listSize_6))) else none)
def fX7_listRows (fu : Nat) (q : Nat → Int64) (lists : Nat → Int64) (listSize : Nat → Int32) (p0 : Int64) (p1 : Int64) (p2 : Int64) : Option ((Nat → Int64) × (Nat → Int32)) :=
  bd1 (fX7_reach fu q (0 : Int32) p2) (fun (r_1 : Int64) => bd1 (fX7_reach fu q (1 : Int32) p2) (fun (r_2 : Int64) => bd1 (fX7_reach fu q (2 : Int32) p2) (fun (r_3 : Int64) => nm (fun (listSize_8 : Nat → Int32) => nm (-r_1) (fun (x13_9 : Int64) => (fX7_listRows_L55 r_1 r_2 r_3 q p0 p1 p2 fu fu x13_9 lists listSize_8))) (fun (k50 : (Nat → Int32) → Option ((Nat → Int64) × (Nat → Int32))) => (fX7_listRows_L30 k50 fu (0 : Int32) listSize)))))
def lkX7_listRows : List Cond := [.fieldLink RX7 36 "KinFormsModel" "listSize" "[I", .fieldLink RX7 33 "KinFormsModel" "lists" "[J"]
def vX7_listRows : List Cond := .code yX7_listRows cX7_listRows 23 none :: (lkX7_listRows ++ (wsX70 ++ (wsV RX7 98 RX7 yX7_reach vX7_reach ++ (wsV RX7 66 RX7 yX7_valueOf vX7_valueOf ++ ([])))))
theorem q_X7_listRows : ∀ w ∈ vX7_listRows, goodWord w = true := gd_cons rfl (gd_app (by decide +kernel) (gd_app q_wsX70 (gd_app (gd_V q_X7_reach) (gd_app (gd_V q_X7_valueOf) gd_nil))))
theorem g_X7_listRows_X7_reach : GoodIn vX7_listRows (wsV RX7 98 RX7 yX7_reach vX7_reach) := gi_of (fun w h => List.mem_cons_of_mem _ (List.mem_append_right _ (List.mem_append_right _ (List.mem_append_left _ h)))) (gd_V q_X7_reach)
theorem g_X7_listRows_X7_valueOf : GoodIn vX7_listRows (wsV RX7 66 RX7 yX7_valueOf vX7_valueOf) := gi_of (fun w h => List.mem_cons_of_mem _ (List.mem_append_right _ (List.mem_append_right _ (List.mem_append_right _ (List.mem_append_left _ h))))) (gd_V q_X7_valueOf)
abbrev rmX7_listRows : Room := { frames := 2, cells := 0, slots := 0, locals := 50 }
set_option maxHeartbeats 4000000 in
set_option maxRecDepth 100000 in
theorem c_X7_listRows (l : Launch) (dC : Nat → ClassId) (dI : Nat → Nat → Nat) (cI : ClassId) (cJ : ClassId) (h : Nat) (a : Nat → Nat) (fu : Nat) (sz : Nat) (forms : Int32) (prime : Int32) (turns : Int32) (lineT : Int32) (lineU : Int32) (kinds : Int32) (upper : Int64) (lower : Int64) (numbers : Nat → Int32) (q : Nat → Int64) (base : Nat → Int64) (least : Nat → Int64) (table : Nat → Int64) (rows : Nat → Int64) (lists : Nat → Int64) (listSize : Nat → Int32) (tried : Nat → Int64) (other : Nat → Int64) (line : Nat → Int64) (makers : Nat → Int64) (touches : Nat → Int64) (made : Nat → Int64) (kindForm : Nat → Int64) (kindTurns : Nat → Int32) (kindWays : Nat → Int32) (p0 : Int64) (p1 : Int64) (p2 : Int64) (o_lists : Nat → Int64) (o_listSize : Nat → Int32) (hF : fX7_listRows fu q lists listSize p0 p1 p2 = some (o_lists, o_listSize)) : Met l yX7_listRows vX7_listRows rmX7_listRows (va_Pc [.ref h, .long p0, .long p1, .long p2] (mPc (dC, dI) vwCl (mW cI cJ h a forms prime turns lineT lineU kinds upper lower numbers q base least table rows lists listSize tried other line makers touches made kindForm kindTurns kindWays) [(cI, .int), (cJ, .long)] sz)) (va_Qv (fun (_ : Unit) => True) (mPo (dC, dI) vwCl (mW cI cJ h a forms prime turns lineT lineU kinds upper lower numbers q base least table rows o_lists o_listSize tried other line makers touches made kindForm kindTurns kindWays) [(cI, .int), (cJ, .long)] (va_A (mW cI cJ h a forms prime turns lineT lineU kinds upper lower numbers q base least table rows lists listSize tried other line makers touches made kindForm kindTurns kindWays) sz)) (va_A (mW cI cJ h a forms prime turns lineT lineU kinds upper lower numbers q base least table rows lists listSize tried other line makers touches made kindForm kindTurns kindWays) sz)) 0 0 (va_A (mW cI cJ h a forms prime turns lineT lineU kinds upper lower numbers q base least table rows lists listSize tried other line makers touches made kindForm kindTurns kindWays) sz) := by
  refine Met.ofW (cc := cX7_listRows) (maxL := 23) (ret := none) (by decide) rfl ?_
  intro p e s m args below meth c s₁ B hml hv
  obtain ⟨rfl, hsz, hP, hK, hD0⟩ := hv
  have hx := B.exec
  have hb := B.bytes
  have hr := B.returns
  have hts := atoms_spec (ws := vX7_listRows) B.pre
  have hlk : ∀ w ∈ lkX7_listRows, w.before _ s = true := fun w h => hts w (List.mem_cons_of_mem _ (List.mem_append_left _ h))
  have hown : s.vm.findClass RX7 = some m.cls := findClass_of_methodNamed B.named
  have hlocks := B.notSynchronized
  subst hsz
  have hD := hD0.self (sz := s.heap.size)
  generalize hAe : va_A (mW cI cJ h a forms prime turns lineT lineU kinds upper lower numbers q base least table rows lists listSize tried other line makers touches made kindForm kindTurns kindWays) s.heap.size = A at hD ⊢
  have hA : ∀ q : Nat, s.heap.size ≤ q → A q := fun q h => by rw [← hAe]; exact Or.inr h
  have hS : va_S A s.heap s.heap [] := va_S.rf
  have hinX7 : ∀ w ∈ wsX70, w ∈ vX7_listRows := fun w h => List.mem_cons_of_mem _ (List.mem_append_right _ (List.mem_append_left _ h))
  have hf_36 := hlk (.fieldLink RX7 36 "KinFormsModel" "listSize" "[I") (by decide +kernel)
  have hf_33 := hlk (.fieldLink RX7 33 "KinFormsModel" "lists" "[J") (by decide +kernel)
  have hl := lv_entry ([.ref h, .long p0, .long p1, .long p2] : List Value) (n := 23) (Nat.le_of_ble_eq_true rfl)
  rw [lg_entry_eq]
  generalize (lg_sl ([.ref h, .long p0, .long p1, .long p2] : List Value) ++ List.replicate (23 - (lg_sl ([.ref h, .long p0, .long p1, .long p2] : List Value)).length) Slot.unset).toArray = ls at hl ⊢
  have hl : lv_has ls 23 [(0, .ref h), (1, .long p0), (3, .long p1), (5, .long p2)] := hl
  unfold fX7_listRows at hF
  refine W_Q (fun Q hQ => ?_)
  have hP : va_P (dC, dI) vwCl (mW cI cJ h a forms prime turns lineT lineU kinds upper lower numbers q base least table rows lists listSize tried other line makers touches made kindForm kindTurns kindWays) s.heap := hP
  refine W_HL (fun H locs eH eL => ?_)
  rw [← eH] at hP
  have hS : va_S A s.heap H locs := by rw [eH, eL]; exact hS
  refine lv_aload_n hx hb dX7_listRows_0 rfl (lv_at hl 0 rfl) ?_
  refine lv_iconst (v := 0) hx hb dX7_listRows_1 (by decide) ?_
  refine lv_lload hx hb dX7_listRows_2 (lv_at hl 3 rfl) ?_
  obtain ⟨r_1, hc, hF⟩ := bd1_of hF
  refine rc_l (va_runV (As := [.int (0 : Int32), .long p2]) (rest := []) ⟨hx, hb, hml, hown, hts⟩ (c_X7_reach l dC dI cI cJ h a fu forms prime turns lineT lineU kinds upper lower numbers q base least table rows lists listSize tried other line makers touches made kindForm kindTurns kindWays (0 : Int32) p2 r_1 hc) (cwV 2 hts g_X7_listRows_X7_reach rfl rfl rfl (by decide +kernel) ⟨Nat.le_of_ble_eq_true rfl, Nat.le_of_ble_eq_true rfl⟩) ⟨rPc_blind, va_recv hK hP (ci := 5) (q0 := 0) rfl rfl, rPc_at hK hP⟩ rfl rfl hl.1 rfl (lv_room (Nat.le_of_ble_eq_true rfl)) dX7_listRows_4 ⟨Nat.zero_le _, Nat.zero_le _⟩) ?_
  refine lv_lstore (lv' := [(7, .long r_1), (0, .ref h), (1, .long p0), (3, .long p1), (5, .long p2)]) hx hb dX7_listRows_7 hl (by decide) rfl (fun ls hl => ?_)
  refine lv_aload_n hx hb dX7_listRows_9 rfl (lv_at hl 1 rfl) ?_
  refine lv_iconst (v := 1) hx hb dX7_listRows_10 (by decide) ?_
  refine lv_lload hx hb dX7_listRows_11 (lv_at hl 4 rfl) ?_
  obtain ⟨r_2, hc, hF⟩ := bd1_of hF
  refine rc_l (va_runV (As := [.int (1 : Int32), .long p2]) (rest := []) ⟨hx, hb, hml, hown, hts⟩ (c_X7_reach l dC dI cI cJ h a fu forms prime turns lineT lineU kinds upper lower numbers q base least table rows lists listSize tried other line makers touches made kindForm kindTurns kindWays (1 : Int32) p2 r_2 hc) (cwV 2 hts g_X7_listRows_X7_reach rfl rfl rfl (by decide +kernel) ⟨Nat.le_of_ble_eq_true rfl, Nat.le_of_ble_eq_true rfl⟩) ⟨rPc_blind, va_recv hK hP (ci := 5) (q0 := 0) rfl rfl, rPc_at hK hP⟩ rfl rfl hl.1 rfl (lv_room (Nat.le_of_ble_eq_true rfl)) dX7_listRows_13 ⟨Nat.zero_le _, Nat.zero_le _⟩) ?_
  refine lv_lstore (lv' := [(9, .long r_2), (7, .long r_1), (0, .ref h), (1, .long p0), (3, .long p1), (5, .long p2)]) hx hb dX7_listRows_16 hl (by decide) rfl (fun ls hl => ?_)
  refine lv_aload_n hx hb dX7_listRows_18 rfl (lv_at hl 2 rfl) ?_
  refine lv_iconst (v := 2) hx hb dX7_listRows_19 (by decide) ?_
  refine lv_lload hx hb dX7_listRows_20 (lv_at hl 5 rfl) ?_
  obtain ⟨r_3, hc, hF⟩ := bd1_of hF
  refine rc_l (va_runV (As := [.int (2 : Int32), .long p2]) (rest := []) ⟨hx, hb, hml, hown, hts⟩ (c_X7_reach l dC dI cI cJ h a fu forms prime turns lineT lineU kinds upper lower numbers q base least table rows lists listSize tried other line makers touches made kindForm kindTurns kindWays (2 : Int32) p2 r_3 hc) (cwV 2 hts g_X7_listRows_X7_reach rfl rfl rfl (by decide +kernel) ⟨Nat.le_of_ble_eq_true rfl, Nat.le_of_ble_eq_true rfl⟩) ⟨rPc_blind, va_recv hK hP (ci := 5) (q0 := 0) rfl rfl, rPc_at hK hP⟩ rfl rfl hl.1 rfl (lv_room (Nat.le_of_ble_eq_true rfl)) dX7_listRows_22 ⟨Nat.zero_le _, Nat.zero_le _⟩) ?_
  refine lv_lstore (lv' := [(11, .long r_3), (9, .long r_2), (7, .long r_1), (0, .ref h), (1, .long p0), (3, .long p1), (5, .long p2)]) hx hb dX7_listRows_25 hl (by decide) rfl (fun ls hl => ?_)
  refine lv_iconst (v := 0) hx hb dX7_listRows_27 (by decide) ?_
  refine lv_istore (lv' := [(13, .int (0 : Int32)), (11, .long r_3), (9, .long r_2), (7, .long r_1), (0, .ref h), (1, .long p0), (3, .long p1), (5, .long p2)]) hx hb dX7_listRows_28 hl (by decide) rfl (fun ls hl => ?_)
  obtain ⟨k50, e_k50, hF⟩ := nm_ex hF
  have hk50 : ∀ (listSize_8 : Nat → Int32) (H : Heap) (locs : List Loc) (ls : Array Slot), va_P (dC, dI) vwCl (mW cI cJ h a forms prime turns lineT lineU kinds upper lower numbers q base least table rows lists listSize_8 tried other line makers touches made kindForm kindTurns kindWays) H → va_D A (mW cI cJ h a forms prime turns lineT lineU kinds upper lower numbers q base least table rows lists listSize_8 tried other line makers touches made kindForm kindTurns kindWays) → va_S A s.heap H locs → lv_has ls 23 [(0, .ref h), (1, .long p0), (3, .long p1), (5, .long p2), (7, .long r_1), (9, .long r_2), (11, .long r_3)] → k50 listSize_8 = some (o_lists, o_listSize) → W p l e rmX7_listRows s m ([.ref h, .long p0, .long p1, .long p2] : List Value).toArray below meth c H locs 0 0 Q (F0 m 50 ls []) := by
    intro listSize_8 H locs ls hP hD hS hl hF
    have hF := ka1 e_k50 hF
    refine lv_lload hx hb dX7_listRows_50 (lv_at hl 4 rfl) ?_
    refine lv_lneg hx hb dX7_listRows_52 ?_
    refine lv_topl (fun x13_9 e_x13_9 => ?_)
    have hF := nm_at hF e_x13_9
    refine lv_lstore (lv' := [(13, .long x13_9), (0, .ref h), (1, .long p0), (3, .long p1), (5, .long p2), (7, .long r_1), (9, .long r_2), (11, .long r_3)]) hx hb dX7_listRows_53 hl (by decide) rfl (fun ls hl => ?_)
    have hL55 : ∀ n : Nat, ∀ (x13_10 : Int64) (lists_11 : Nat → Int64) (listSize_12 : Nat → Int32) (H : Heap) (locs : List Loc) (ls : Array Slot), va_P (dC, dI) vwCl (mW cI cJ h a forms prime turns lineT lineU kinds upper lower numbers q base least table rows lists_11 listSize_12 tried other line makers touches made kindForm kindTurns kindWays) H → va_D A (mW cI cJ h a forms prime turns lineT lineU kinds upper lower numbers q base least table rows lists_11 listSize_12 tried other line makers touches made kindForm kindTurns kindWays) → va_S A s.heap H locs → lv_has ls 23 [(0, .ref h), (1, .long p0), (3, .long p1), (5, .long p2), (7, .long r_1), (9, .long r_2), (11, .long r_3), (13, .long x13_10)] → fX7_listRows_L55 r_1 r_2 r_3 q p0 p1 p2 fu n x13_10 lists_11 listSize_12 = some (o_lists, o_listSize) → W p l e rmX7_listRows s m ([.ref h, .long p0, .long p1, .long p2] : List Value).toArray below meth c H locs 0 0 Q (F0 m 55 ls []) := by
      intro n
      induction n with
      | zero => intro x13_10 lists_11 listSize_12 H locs ls hP hD hS hl hF; rw [fX7_listRows_L55] at hF; cases hF
      | succ n ih55 =>
        intro x13_10 lists_11 listSize_12 H locs ls hP hD hS hl hF
        rw [fX7_listRows_L55] at hF
        refine lv_lload hx hb dX7_listRows_55 (lv_at hl 7 rfl) ?_
        refine lv_lload hx hb dX7_listRows_57 (lv_at hl 4 rfl) ?_
        refine W.lcmp hx hb dX7_listRows_59 ?_
        refine lv_if_gt (tgt := 230) hx hb dX7_listRows_60 (by decide) (fun c0 => ?_) (fun c0 => ?_)
        · have c0 := (lg_cmp_gt _ _).mp c0
          have hF := if_t hF c0
          obtain ⟨q0, q1⟩ := sm2 hF
          have hP : va_P (dC, dI) vwCl (mW cI cJ h a forms prime turns lineT lineU kinds upper lower numbers q base least table rows o_lists o_listSize tried other line makers touches made kindForm kindTurns kindWays) H := by rw [← q0, ← q1]; exact hP
          have hD : va_D A (mW cI cJ h a forms prime turns lineT lineU kinds upper lower numbers q base least table rows o_lists o_listSize tried other line makers touches made kindForm kindTurns kindWays) := by rw [← q0, ← q1]; exact hD
          refine W_Qe hQ ?_
          exact W.vret hx hb hr (fun t ht hW => ⟨⟨(), rfl, trivial, by rw [ht]; exact hP, va_K.moved hW.alike hK, hD⟩, hS.F ht⟩) hS.2.2 dX7_listRows_230
        · have c0 := (not_congr (lg_cmp_gt _ _)).mp c0
          have hF := if_f hF c0
          refine lv_lload hx hb dX7_listRows_63 (lv_at hl 5 rfl) ?_
          refine lv_lneg hx hb dX7_listRows_65 ?_
          refine lv_topl (fun x15_13 e_x15_13 => ?_)
          have hF := nm_at hF e_x15_13
          refine lv_lstore (lv' := [(15, .long x15_13), (0, .ref h), (1, .long p0), (3, .long p1), (5, .long p2), (7, .long r_1), (9, .long r_2), (11, .long r_3), (13, .long x13_10)]) hx hb dX7_listRows_66 hl (by decide) rfl (fun ls hl => ?_)
          obtain ⟨k221, e_k221, hF⟩ := nm_ex hF
          have hk221 : ∀ (lists_42 : Nat → Int64) (listSize_43 : Nat → Int32) (H : Heap) (locs : List Loc) (ls : Array Slot), va_P (dC, dI) vwCl (mW cI cJ h a forms prime turns lineT lineU kinds upper lower numbers q base least table rows lists_42 listSize_43 tried other line makers touches made kindForm kindTurns kindWays) H → va_D A (mW cI cJ h a forms prime turns lineT lineU kinds upper lower numbers q base least table rows lists_42 listSize_43 tried other line makers touches made kindForm kindTurns kindWays) → va_S A s.heap H locs → lv_has ls 23 [(0, .ref h), (1, .long p0), (3, .long p1), (5, .long p2), (7, .long r_1), (9, .long r_2), (11, .long r_3), (13, .long x13_10)] → k221 lists_42 listSize_43 = some (o_lists, o_listSize) → W p l e rmX7_listRows s m ([.ref h, .long p0, .long p1, .long p2] : List Value).toArray below meth c H locs 0 0 Q (F0 m 221 ls []) := by
            intro lists_42 listSize_43 H locs ls hP hD hS hl hF
            have hF := ka2 e_k221 hF
            refine lv_lload hx hb dX7_listRows_221 (lv_at hl 7 rfl) ?_
            refine lv_lconst (v := 1) hx hb dX7_listRows_223 (by decide) ?_
            refine lv_ladd hx hb dX7_listRows_224 ?_
            refine lv_topl (fun x13_44 e_x13_44 => ?_)
            have hF := nm_at hF e_x13_44
            refine lv_lstore (lv' := [(13, .long x13_44), (0, .ref h), (1, .long p0), (3, .long p1), (5, .long p2), (7, .long r_1), (9, .long r_2), (11, .long r_3)]) hx hb dX7_listRows_225 hl (by decide) rfl (fun ls hl => ?_)
            refine lv_goto (tgt := 55) hx hb dX7_listRows_227 (by decide) ?_
            exact ih55 x13_44 lists_42 listSize_43 H locs ls hP hD hS (lv_sub hl [1, 2, 3, 4, 5, 6, 7, 0] rfl) hF
          clear e_k221
          have hL68 : ∀ n : Nat, ∀ (x15_14 : Int64) (lists_15 : Nat → Int64) (listSize_16 : Nat → Int32) (H : Heap) (locs : List Loc) (ls : Array Slot), va_P (dC, dI) vwCl (mW cI cJ h a forms prime turns lineT lineU kinds upper lower numbers q base least table rows lists_15 listSize_16 tried other line makers touches made kindForm kindTurns kindWays) H → va_D A (mW cI cJ h a forms prime turns lineT lineU kinds upper lower numbers q base least table rows lists_15 listSize_16 tried other line makers touches made kindForm kindTurns kindWays) → va_S A s.heap H locs → lv_has ls 23 [(0, .ref h), (1, .long p0), (3, .long p1), (5, .long p2), (7, .long r_1), (9, .long r_2), (11, .long r_3), (13, .long x13_10), (15, .long x15_14)] → fX7_listRows_L68 r_2 k221 r_3 q x13_10 p0 p1 p2 fu n x15_14 lists_15 listSize_16 = some (o_lists, o_listSize) → W p l e rmX7_listRows s m ([.ref h, .long p0, .long p1, .long p2] : List Value).toArray below meth c H locs 0 0 Q (F0 m 68 ls []) := by
            intro n
            induction n with
            | zero => intro x15_14 lists_15 listSize_16 H locs ls hP hD hS hl hF; rw [fX7_listRows_L68] at hF; cases hF
            | succ n ih68 =>
              intro x15_14 lists_15 listSize_16 H locs ls hP hD hS hl hF
              rw [fX7_listRows_L68] at hF
              refine lv_lload hx hb dX7_listRows_68 (lv_at hl 8 rfl) ?_
              refine lv_lload hx hb dX7_listRows_70 (lv_at hl 5 rfl) ?_
              refine W.lcmp hx hb dX7_listRows_72 ?_
              refine lv_if_gt (tgt := 221) hx hb dX7_listRows_73 (by decide) (fun c0 => ?_) (fun c0 => ?_)
              · have c0 := (lg_cmp_gt _ _).mp c0
                have hF := if_t hF c0
                exact hk221 lists_15 listSize_16 H locs ls hP hD hS (lv_sub hl [0, 1, 2, 3, 4, 5, 6, 7] rfl) hF
              · have c0 := (not_congr (lg_cmp_gt _ _)).mp c0
                have hF := if_f hF c0
                refine lv_lload hx hb dX7_listRows_76 (lv_at hl 6 rfl) ?_
                refine lv_lneg hx hb dX7_listRows_78 ?_
                refine lv_topl (fun x17_17 e_x17_17 => ?_)
                have hF := nm_at hF e_x17_17
                refine lv_lstore (lv' := [(17, .long x17_17), (0, .ref h), (1, .long p0), (3, .long p1), (5, .long p2), (7, .long r_1), (9, .long r_2), (11, .long r_3), (13, .long x13_10), (15, .long x15_14)]) hx hb dX7_listRows_79 hl (by decide) rfl (fun ls hl => ?_)
                obtain ⟨k212, e_k212, hF⟩ := nm_ex hF
                have hk212 : ∀ (lists_39 : Nat → Int64) (listSize_40 : Nat → Int32) (H : Heap) (locs : List Loc) (ls : Array Slot), va_P (dC, dI) vwCl (mW cI cJ h a forms prime turns lineT lineU kinds upper lower numbers q base least table rows lists_39 listSize_40 tried other line makers touches made kindForm kindTurns kindWays) H → va_D A (mW cI cJ h a forms prime turns lineT lineU kinds upper lower numbers q base least table rows lists_39 listSize_40 tried other line makers touches made kindForm kindTurns kindWays) → va_S A s.heap H locs → lv_has ls 23 [(0, .ref h), (1, .long p0), (3, .long p1), (5, .long p2), (7, .long r_1), (9, .long r_2), (11, .long r_3), (13, .long x13_10), (15, .long x15_14)] → k212 lists_39 listSize_40 = some (o_lists, o_listSize) → W p l e rmX7_listRows s m ([.ref h, .long p0, .long p1, .long p2] : List Value).toArray below meth c H locs 0 0 Q (F0 m 212 ls []) := by
                  intro lists_39 listSize_40 H locs ls hP hD hS hl hF
                  have hF := ka2 e_k212 hF
                  refine lv_lload hx hb dX7_listRows_212 (lv_at hl 8 rfl) ?_
                  refine lv_lconst (v := 1) hx hb dX7_listRows_214 (by decide) ?_
                  refine lv_ladd hx hb dX7_listRows_215 ?_
                  refine lv_topl (fun x15_41 e_x15_41 => ?_)
                  have hF := nm_at hF e_x15_41
                  refine lv_lstore (lv' := [(15, .long x15_41), (0, .ref h), (1, .long p0), (3, .long p1), (5, .long p2), (7, .long r_1), (9, .long r_2), (11, .long r_3), (13, .long x13_10)]) hx hb dX7_listRows_216 hl (by decide) rfl (fun ls hl => ?_)
                  refine lv_goto (tgt := 68) hx hb dX7_listRows_218 (by decide) ?_
                  exact ih68 x15_41 lists_39 listSize_40 H locs ls hP hD hS (lv_sub hl [1, 2, 3, 4, 5, 6, 7, 8, 0] rfl) hF
                clear e_k212
                have hL81 : ∀ n : Nat, ∀ (x17_18 : Int64) (lists_19 : Nat → Int64) (listSize_20 : Nat → Int32) (H : Heap) (locs : List Loc) (ls : Array Slot), va_P (dC, dI) vwCl (mW cI cJ h a forms prime turns lineT lineU kinds upper lower numbers q base least table rows lists_19 listSize_20 tried other line makers touches made kindForm kindTurns kindWays) H → va_D A (mW cI cJ h a forms prime turns lineT lineU kinds upper lower numbers q base least table rows lists_19 listSize_20 tried other line makers touches made kindForm kindTurns kindWays) → va_S A s.heap H locs → lv_has ls 23 [(0, .ref h), (1, .long p0), (3, .long p1), (5, .long p2), (7, .long r_1), (9, .long r_2), (11, .long r_3), (13, .long x13_10), (15, .long x15_14), (17, .long x17_18)] → fX7_listRows_L81 r_3 k212 q x13_10 x15_14 p0 p1 p2 fu n x17_18 lists_19 listSize_20 = some (o_lists, o_listSize) → W p l e rmX7_listRows s m ([.ref h, .long p0, .long p1, .long p2] : List Value).toArray below meth c H locs 0 0 Q (F0 m 81 ls []) := by
                  intro n
                  induction n with
                  | zero => intro x17_18 lists_19 listSize_20 H locs ls hP hD hS hl hF; rw [fX7_listRows_L81] at hF; cases hF
                  | succ n ih81 =>
                    intro x17_18 lists_19 listSize_20 H locs ls hP hD hS hl hF
                    rw [fX7_listRows_L81] at hF
                    refine lv_lload hx hb dX7_listRows_81 (lv_at hl 9 rfl) ?_
                    refine lv_lload hx hb dX7_listRows_83 (lv_at hl 6 rfl) ?_
                    refine W.lcmp hx hb dX7_listRows_85 ?_
                    refine lv_if_gt (tgt := 212) hx hb dX7_listRows_86 (by decide) (fun c0 => ?_) (fun c0 => ?_)
                    · have c0 := (lg_cmp_gt _ _).mp c0
                      have hF := if_t hF c0
                      exact hk212 lists_19 listSize_20 H locs ls hP hD hS (lv_sub hl [0, 1, 2, 3, 4, 5, 6, 7, 8] rfl) hF
                    · have c0 := (not_congr (lg_cmp_gt _ _)).mp c0
                      have hF := if_f hF c0
                      refine lv_aload_n hx hb dX7_listRows_89 rfl (lv_at hl 0 rfl) ?_
                      refine lv_lload hx hb dX7_listRows_90 (lv_at hl 7 rfl) ?_
                      refine lv_lload hx hb dX7_listRows_92 (lv_at hl 8 rfl) ?_
                      refine lv_lload hx hb dX7_listRows_94 (lv_at hl 9 rfl) ?_
                      obtain ⟨r_21, hc, hF⟩ := bd1_of hF
                      refine rc_l (va_runV (As := [.long x13_10, .long x15_14, .long x17_18]) (rest := []) ⟨hx, hb, hml, hown, hts⟩ (c_X7_valueOf l dC dI cI cJ h a forms prime turns lineT lineU kinds upper lower numbers q base least table rows lists_19 listSize_20 tried other line makers touches made kindForm kindTurns kindWays x13_10 x15_14 x17_18 r_21 hc) (cwV 3 hts g_X7_listRows_X7_valueOf rfl rfl rfl (by decide +kernel) ⟨Nat.le_of_ble_eq_true rfl, Nat.le_of_ble_eq_true rfl⟩) ⟨rPc_blind, va_recv hK hP (ci := 5) (q0 := 0) rfl rfl, rPc_at hK hP⟩ rfl rfl hl.1 rfl (lv_room (Nat.le_of_ble_eq_true rfl)) dX7_listRows_96 ⟨Nat.zero_le _, Nat.zero_le _⟩) ?_
                      refine lv_lstore (lv' := [(19, .long r_21), (0, .ref h), (1, .long p0), (3, .long p1), (5, .long p2), (7, .long r_1), (9, .long r_2), (11, .long r_3), (13, .long x13_10), (15, .long x15_14), (17, .long x17_18)]) hx hb dX7_listRows_99 hl (by decide) rfl (fun ls hl => ?_)
                      refine lv_iconst (v := 0) hx hb dX7_listRows_101 (by decide) ?_
                      refine lv_istore (lv' := [(21, .int (0 : Int32)), (19, .long r_21), (0, .ref h), (1, .long p0), (3, .long p1), (5, .long p2), (7, .long r_1), (9, .long r_2), (11, .long r_3), (13, .long x13_10), (15, .long x15_14), (17, .long x17_18)]) hx hb dX7_listRows_102 hl (by decide) rfl (fun ls hl => ?_)
                      obtain ⟨k203, e_k203, hF⟩ := nm_ex hF
                      have hk203 : ∀ (lists_36 : Nat → Int64) (listSize_37 : Nat → Int32) (H : Heap) (locs : List Loc) (ls : Array Slot), va_P (dC, dI) vwCl (mW cI cJ h a forms prime turns lineT lineU kinds upper lower numbers q base least table rows lists_36 listSize_37 tried other line makers touches made kindForm kindTurns kindWays) H → va_D A (mW cI cJ h a forms prime turns lineT lineU kinds upper lower numbers q base least table rows lists_36 listSize_37 tried other line makers touches made kindForm kindTurns kindWays) → va_S A s.heap H locs → lv_has ls 23 [(0, .ref h), (1, .long p0), (3, .long p1), (5, .long p2), (7, .long r_1), (9, .long r_2), (11, .long r_3), (13, .long x13_10), (15, .long x15_14), (17, .long x17_18)] → k203 lists_36 listSize_37 = some (o_lists, o_listSize) → W p l e rmX7_listRows s m ([.ref h, .long p0, .long p1, .long p2] : List Value).toArray below meth c H locs 0 0 Q (F0 m 203 ls []) := by
                        intro lists_36 listSize_37 H locs ls hP hD hS hl hF
                        have hF := ka2 e_k203 hF
                        refine lv_lload hx hb dX7_listRows_203 (lv_at hl 9 rfl) ?_
                        refine lv_lconst (v := 1) hx hb dX7_listRows_205 (by decide) ?_
                        refine lv_ladd hx hb dX7_listRows_206 ?_
                        refine lv_topl (fun x17_38 e_x17_38 => ?_)
                        have hF := nm_at hF e_x17_38
                        refine lv_lstore (lv' := [(17, .long x17_38), (0, .ref h), (1, .long p0), (3, .long p1), (5, .long p2), (7, .long r_1), (9, .long r_2), (11, .long r_3), (13, .long x13_10), (15, .long x15_14)]) hx hb dX7_listRows_207 hl (by decide) rfl (fun ls hl => ?_)
                        refine lv_goto (tgt := 81) hx hb dX7_listRows_209 (by decide) ?_
                        exact ih81 x17_38 lists_36 listSize_37 H locs ls hP hD hS (lv_sub hl [1, 2, 3, 4, 5, 6, 7, 8, 9, 0] rfl) hF
                      clear e_k203
                      have hL104 : ∀ n : Nat, ∀ (x21_22 : Int32) (lists_23 : Nat → Int64) (listSize_24 : Nat → Int32) (H : Heap) (locs : List Loc) (ls : Array Slot), va_P (dC, dI) vwCl (mW cI cJ h a forms prime turns lineT lineU kinds upper lower numbers q base least table rows lists_23 listSize_24 tried other line makers touches made kindForm kindTurns kindWays) H → va_D A (mW cI cJ h a forms prime turns lineT lineU kinds upper lower numbers q base least table rows lists_23 listSize_24 tried other line makers touches made kindForm kindTurns kindWays) → va_S A s.heap H locs → lv_has ls 23 [(0, .ref h), (1, .long p0), (3, .long p1), (5, .long p2), (7, .long r_1), (9, .long r_2), (11, .long r_3), (13, .long x13_10), (15, .long x15_14), (17, .long x17_18), (19, .long r_21), (21, .int x21_22)] → fX7_listRows_L104 k203 r_21 x13_10 x15_14 x17_18 p0 p1 p2 n x21_22 lists_23 listSize_24 = some (o_lists, o_listSize) → W p l e rmX7_listRows s m ([.ref h, .long p0, .long p1, .long p2] : List Value).toArray below meth c H locs 0 0 Q (F0 m 104 ls []) := by
                        intro n
                        induction n with
                        | zero => intro x21_22 lists_23 listSize_24 H locs ls hP hD hS hl hF; rw [fX7_listRows_L104] at hF; cases hF
                        | succ n ih104 =>
                          intro x21_22 lists_23 listSize_24 H locs ls hP hD hS hl hF
                          rw [fX7_listRows_L104] at hF
                          refine lv_iload hx hb dX7_listRows_104 (lv_at hl 11 rfl) ?_
                          refine lv_iconst (v := 3) hx hb dX7_listRows_106 (by decide) ?_
                          refine lv_icmp_ge (tgt := 203) hx hb dX7_listRows_107 (by decide) (fun c0 => ?_) (fun c0 => ?_)
                          · have hF := if_t hF c0
                            exact hk203 lists_23 listSize_24 H locs ls hP hD hS (lv_sub hl [0, 1, 2, 3, 4, 5, 6, 7, 8, 9] rfl) hF
                          · have hF := if_f hF c0
                            refine lv_lload hx hb dX7_listRows_110 (lv_at hl 10 rfl) ?_
                            refine lv_iload hx hb dX7_listRows_112 (lv_at hl 11 rfl) ?_
                            obtain ⟨k133, e_k133, hF⟩ := nm_ex hF
                            have hk133 : ∀ (s_25 : Int64) (H : Heap) (locs : List Loc) (ls : Array Slot), va_P (dC, dI) vwCl (mW cI cJ h a forms prime turns lineT lineU kinds upper lower numbers q base least table rows lists_23 listSize_24 tried other line makers touches made kindForm kindTurns kindWays) H → va_D A (mW cI cJ h a forms prime turns lineT lineU kinds upper lower numbers q base least table rows lists_23 listSize_24 tried other line makers touches made kindForm kindTurns kindWays) → va_S A s.heap H locs → lv_has ls 23 [(0, .ref h), (1, .long p0), (3, .long p1), (5, .long p2), (7, .long r_1), (9, .long r_2), (11, .long r_3), (13, .long x13_10), (15, .long x15_14), (17, .long x17_18), (19, .long r_21), (21, .int x21_22)] → k133 s_25 = some (o_lists, o_listSize) → W p l e rmX7_listRows s m ([.ref h, .long p0, .long p1, .long p2] : List Value).toArray below meth c H locs 0 0 Q (F0 m 133 ls [.long s_25, .long r_21]) := by
                              intro s_25 H locs ls hP hD hS hl hF
                              have hF := ka1 e_k133 hF
                              refine W.lcmp hx hb dX7_listRows_133 ?_
                              obtain ⟨k197, e_k197, hF⟩ := nm_ex hF
                              have hk197 : ∀ (lists_33 : Nat → Int64) (listSize_34 : Nat → Int32) (H : Heap) (locs : List Loc) (ls : Array Slot), va_P (dC, dI) vwCl (mW cI cJ h a forms prime turns lineT lineU kinds upper lower numbers q base least table rows lists_33 listSize_34 tried other line makers touches made kindForm kindTurns kindWays) H → va_D A (mW cI cJ h a forms prime turns lineT lineU kinds upper lower numbers q base least table rows lists_33 listSize_34 tried other line makers touches made kindForm kindTurns kindWays) → va_S A s.heap H locs → lv_has ls 23 [(0, .ref h), (1, .long p0), (3, .long p1), (5, .long p2), (7, .long r_1), (9, .long r_2), (11, .long r_3), (13, .long x13_10), (15, .long x15_14), (17, .long x17_18), (19, .long r_21), (21, .int x21_22)] → k197 lists_33 listSize_34 = some (o_lists, o_listSize) → W p l e rmX7_listRows s m ([.ref h, .long p0, .long p1, .long p2] : List Value).toArray below meth c H locs 0 0 Q (F0 m 197 ls []) := by
                                intro lists_33 listSize_34 H locs ls hP hD hS hl hF
                                have hF := ka2 e_k197 hF
                                obtain ⟨x21_35, e_x21_35, hF⟩ := nm_ex hF
                                refine lv_iinc (v := x21_35) (lv' := [(21, .int x21_35), (0, .ref h), (1, .long p0), (3, .long p1), (5, .long p2), (7, .long r_1), (9, .long r_2), (11, .long r_3), (13, .long x13_10), (15, .long x15_14), (17, .long x17_18), (19, .long r_21)]) hx hb dX7_listRows_197 hl (k := 11) rfl (by rw [e_x21_35]; rfl) (by decide) rfl (fun ls hl => ?_)
                                refine lv_goto (tgt := 104) hx hb dX7_listRows_200 (by decide) ?_
                                exact ih104 x21_35 lists_33 listSize_34 H locs ls hP hD hS (lv_sub hl [1, 2, 3, 4, 5, 6, 7, 8, 9, 10, 11, 0] rfl) hF
                              clear e_k197
                              refine lv_if_ne (tgt := 197) hx hb dX7_listRows_134 (by decide) (fun c0 => ?_) (fun c0 => ?_)
                              · have c0 := (not_congr (lg_cmp_eq _ _)).mp c0
                                have hF := if_f hF c0
                                exact hk197 lists_23 listSize_24 H locs ls hP hD hS (lv_sub hl [0, 1, 2, 3, 4, 5, 6, 7, 8, 9, 10, 11] rfl) hF
                              · have c0 := (lg_cmp_eq _ _).mp c0
                                have hF := if_t hF c0
                                refine lv_sipush (v := (1800)) hx hb dX7_listRows_137 (by decide) ?_
                                refine lv_iload hx hb dX7_listRows_140 (lv_at hl 11 rfl) ?_
                                refine lv_imul hx hb dX7_listRows_142 ?_
                                refine lv_iconst (v := 3) hx hb dX7_listRows_143 (by decide) ?_
                                refine lv_aload_n hx hb dX7_listRows_144 rfl (lv_at hl 0 rfl) ?_
                                refine va_get (D := (dC, dI)) (ci := 5) (v := .ref (a 8)) (C := RX7) (T := TX7) (N := 25) hx hb hts hinX7 hown hK hP 0 rfl rfl 10 (by decide) hf_36 (fun _ h9 => h9) rfl dX7_listRows_145 ?_
                                refine lv_iload hx hb dX7_listRows_148 (lv_at hl 11 rfl) ?_
                                obtain ⟨hi, hF⟩ := ck_of hF
                                refine va_iald hx hb hK hP 8 0 rfl rfl hi dX7_listRows_150 ?_
                                refine lv_imul hx hb dX7_listRows_151 ?_
                                refine lv_iadd hx hb dX7_listRows_152 ?_
                                refine lv_topi (fun x22_26 e_x22_26 => ?_)
                                have hF := nm_at hF e_x22_26
                                refine lv_istore (lv' := [(22, .int x22_26), (0, .ref h), (1, .long p0), (3, .long p1), (5, .long p2), (7, .long r_1), (9, .long r_2), (11, .long r_3), (13, .long x13_10), (15, .long x15_14), (17, .long x17_18), (19, .long r_21), (21, .int x21_22)]) hx hb dX7_listRows_153 hl (by decide) rfl (fun ls hl => ?_)
                                refine lv_aload_n hx hb dX7_listRows_155 rfl (lv_at hl 1 rfl) ?_
                                refine va_get (D := (dC, dI)) (ci := 5) (v := .ref (a 7)) (C := RX7) (T := TX7) (N := 25) hx hb hts hinX7 hown hK hP 0 rfl rfl 9 (by decide) hf_33 (fun _ h9 => h9) rfl dX7_listRows_156 ?_
                                refine lv_iload hx hb dX7_listRows_159 (lv_at hl 0 rfl) ?_
                                refine lv_lload hx hb dX7_listRows_161 (lv_at hl 8 rfl) ?_
                                obtain ⟨hi, hF⟩ := ck_of hF
                                obtain ⟨lists_27, e_lists_27, hF⟩ := nm_ex hF
                                refine kc_last (j := x22_26.toNatClampNeg) (g := lists_27) hx hb hK hP hD hS 7 1 rfl rfl rfl hi dX7_listRows_163 e_lists_27 (fun H locs hP hD hS => ?_)
                                have hP : va_P (dC, dI) vwCl (mW cI cJ h a forms prime turns lineT lineU kinds upper lower numbers q base least table rows lists_27 listSize_24 tried other line makers touches made kindForm kindTurns kindWays) H := hP
                                have hD : va_D A (mW cI cJ h a forms prime turns lineT lineU kinds upper lower numbers q base least table rows lists_27 listSize_24 tried other line makers touches made kindForm kindTurns kindWays) := hD
                                refine lv_aload_n hx hb dX7_listRows_164 rfl (lv_at hl 1 rfl) ?_
                                refine va_get (D := (dC, dI)) (ci := 5) (v := .ref (a 7)) (C := RX7) (T := TX7) (N := 25) hx hb hts hinX7 hown hK hP 0 rfl rfl 9 (by decide) hf_33 (fun _ h9 => h9) rfl dX7_listRows_165 ?_
                                refine lv_iload hx hb dX7_listRows_168 (lv_at hl 0 rfl) ?_
                                refine lv_iconst (v := 1) hx hb dX7_listRows_170 (by decide) ?_
                                refine lv_iadd hx hb dX7_listRows_171 ?_
                                refine lv_lload hx hb dX7_listRows_172 (lv_at hl 9 rfl) ?_
                                obtain ⟨v_28, e_v_28, hF⟩ := nm_ex hF
                                rw [← e_v_28]
                                obtain ⟨hi, hF⟩ := ck_of hF
                                obtain ⟨lists_29, e_lists_29, hF⟩ := nm_ex hF
                                refine kc_last (j := v_28.toNatClampNeg) (g := lists_29) hx hb hK hP hD hS 7 1 rfl rfl rfl hi dX7_listRows_174 e_lists_29 (fun H locs hP hD hS => ?_)
                                have hP : va_P (dC, dI) vwCl (mW cI cJ h a forms prime turns lineT lineU kinds upper lower numbers q base least table rows lists_29 listSize_24 tried other line makers touches made kindForm kindTurns kindWays) H := hP
                                have hD : va_D A (mW cI cJ h a forms prime turns lineT lineU kinds upper lower numbers q base least table rows lists_29 listSize_24 tried other line makers touches made kindForm kindTurns kindWays) := hD
                                refine lv_aload_n hx hb dX7_listRows_175 rfl (lv_at hl 1 rfl) ?_
                                refine va_get (D := (dC, dI)) (ci := 5) (v := .ref (a 7)) (C := RX7) (T := TX7) (N := 25) hx hb hts hinX7 hown hK hP 0 rfl rfl 9 (by decide) hf_33 (fun _ h9 => h9) rfl dX7_listRows_176 ?_
                                refine lv_iload hx hb dX7_listRows_179 (lv_at hl 0 rfl) ?_
                                refine lv_iconst (v := 2) hx hb dX7_listRows_181 (by decide) ?_
                                refine lv_iadd hx hb dX7_listRows_182 ?_
                                refine lv_lload hx hb dX7_listRows_183 (lv_at hl 10 rfl) ?_
                                obtain ⟨v_30, e_v_30, hF⟩ := nm_ex hF
                                rw [← e_v_30]
                                obtain ⟨hi, hF⟩ := ck_of hF
                                obtain ⟨lists_31, e_lists_31, hF⟩ := nm_ex hF
                                refine kc_last (j := v_30.toNatClampNeg) (g := lists_31) hx hb hK hP hD hS 7 1 rfl rfl rfl hi dX7_listRows_185 e_lists_31 (fun H locs hP hD hS => ?_)
                                have hP : va_P (dC, dI) vwCl (mW cI cJ h a forms prime turns lineT lineU kinds upper lower numbers q base least table rows lists_31 listSize_24 tried other line makers touches made kindForm kindTurns kindWays) H := hP
                                have hD : va_D A (mW cI cJ h a forms prime turns lineT lineU kinds upper lower numbers q base least table rows lists_31 listSize_24 tried other line makers touches made kindForm kindTurns kindWays) := hD
                                refine lv_aload_n hx hb dX7_listRows_186 rfl (lv_at hl 1 rfl) ?_
                                refine va_get (D := (dC, dI)) (ci := 5) (v := .ref (a 8)) (C := RX7) (T := TX7) (N := 25) hx hb hts hinX7 hown hK hP 0 rfl rfl 10 (by decide) hf_36 (fun _ h9 => h9) rfl dX7_listRows_187 ?_
                                refine lv_iload hx hb dX7_listRows_190 (lv_at hl 12 rfl) ?_
                                refine lv_dup2_11 hx hb dX7_listRows_192 rfl rfl ?_
                                obtain ⟨hi, hF⟩ := ck_of hF
                                refine va_iald hx hb hK hP 8 0 rfl rfl hi dX7_listRows_193 ?_
                                refine lv_iconst (v := 1) hx hb dX7_listRows_194 (by decide) ?_
                                refine lv_iadd hx hb dX7_listRows_195 ?_
                                obtain ⟨hi, hF⟩ := ck_of hF
                                obtain ⟨listSize_32, e_listSize_32, hF⟩ := nm_ex hF
                                refine kc_iast (j := x21_22.toNatClampNeg) (g := listSize_32) hx hb hK hP hD hS 8 0 rfl rfl rfl hi dX7_listRows_196 e_listSize_32 (fun H locs hP hD hS => ?_)
                                have hP : va_P (dC, dI) vwCl (mW cI cJ h a forms prime turns lineT lineU kinds upper lower numbers q base least table rows lists_31 listSize_32 tried other line makers touches made kindForm kindTurns kindWays) H := hP
                                have hD : va_D A (mW cI cJ h a forms prime turns lineT lineU kinds upper lower numbers q base least table rows lists_31 listSize_32 tried other line makers touches made kindForm kindTurns kindWays) := hD
                                exact hk197 lists_31 listSize_32 H locs ls hP hD hS (lv_sub hl [1, 2, 3, 4, 5, 6, 7, 8, 9, 10, 11, 12] rfl) hF
                            clear e_k133
                            refine lv_if_ne (tgt := 121) hx hb dX7_listRows_114 (by decide) (fun c0 => ?_) (fun c0 => ?_)
                            · have hF := if_f hF c0
                              refine lv_iload hx hb dX7_listRows_121 (lv_at hl 11 rfl) ?_
                              refine lv_iconst (v := 1) hx hb dX7_listRows_123 (by decide) ?_
                              refine lv_icmp_ne (tgt := 131) hx hb dX7_listRows_124 (by decide) (fun c0 => ?_) (fun c0 => ?_)
                              · have hF := if_f hF c0
                                refine lv_lload hx hb dX7_listRows_131 (lv_at hl 3 rfl) ?_
                                exact hk133 p2 H locs ls hP hD hS (lv_sub hl [0, 1, 2, 3, 4, 5, 6, 7, 8, 9, 10, 11] rfl) hF
                              · have hF := if_t hF c0
                                refine lv_lload_n hx hb dX7_listRows_127 rfl (lv_at hl 2 rfl) ?_
                                refine lv_goto (tgt := 133) hx hb dX7_listRows_128 (by decide) ?_
                                exact hk133 p1 H locs ls hP hD hS (lv_sub hl [0, 1, 2, 3, 4, 5, 6, 7, 8, 9, 10, 11] rfl) hF
                            · have hF := if_t hF c0
                              refine lv_lload_n hx hb dX7_listRows_117 rfl (lv_at hl 1 rfl) ?_
                              refine lv_goto (tgt := 133) hx hb dX7_listRows_118 (by decide) ?_
                              exact hk133 p0 H locs ls hP hD hS (lv_sub hl [0, 1, 2, 3, 4, 5, 6, 7, 8, 9, 10, 11] rfl) hF
                      exact hL104 fu (0 : Int32) lists_19 listSize_20 H locs ls hP hD hS (lv_sub hl [2, 3, 4, 5, 6, 7, 8, 9, 10, 11, 1, 0] rfl) hF
                exact hL81 fu x17_17 lists_15 listSize_16 H locs ls hP hD hS (lv_sub hl [1, 2, 3, 4, 5, 6, 7, 8, 9, 0] rfl) hF
          exact hL68 fu x15_13 lists_11 listSize_12 H locs ls hP hD hS (lv_sub hl [1, 2, 3, 4, 5, 6, 7, 8, 0] rfl) hF
    exact hL55 fu x13_9 lists listSize_8 H locs ls hP hD hS (lv_sub hl [1, 2, 3, 4, 5, 6, 7, 0] rfl) hF
  clear e_k50
  have hL30 : ∀ n : Nat, ∀ (x13_4 : Int32) (listSize_5 : Nat → Int32) (H : Heap) (locs : List Loc) (ls : Array Slot), va_P (dC, dI) vwCl (mW cI cJ h a forms prime turns lineT lineU kinds upper lower numbers q base least table rows lists listSize_5 tried other line makers touches made kindForm kindTurns kindWays) H → va_D A (mW cI cJ h a forms prime turns lineT lineU kinds upper lower numbers q base least table rows lists listSize_5 tried other line makers touches made kindForm kindTurns kindWays) → va_S A s.heap H locs → lv_has ls 23 [(0, .ref h), (1, .long p0), (3, .long p1), (5, .long p2), (7, .long r_1), (9, .long r_2), (11, .long r_3), (13, .int x13_4)] → fX7_listRows_L30 k50 n x13_4 listSize_5 = some (o_lists, o_listSize) → W p l e rmX7_listRows s m ([.ref h, .long p0, .long p1, .long p2] : List Value).toArray below meth c H locs 0 0 Q (F0 m 30 ls []) := by
    intro n
    induction n with
    | zero => intro x13_4 listSize_5 H locs ls hP hD hS hl hF; rw [fX7_listRows_L30] at hF; cases hF
    | succ n ih30 =>
      intro x13_4 listSize_5 H locs ls hP hD hS hl hF
      rw [fX7_listRows_L30] at hF
      refine lv_iload hx hb dX7_listRows_30 (lv_at hl 7 rfl) ?_
      refine lv_iconst (v := 3) hx hb dX7_listRows_32 (by decide) ?_
      refine lv_icmp_ge (tgt := 50) hx hb dX7_listRows_33 (by decide) (fun c0 => ?_) (fun c0 => ?_)
      · have hF := if_t hF c0
        exact hk50 listSize_5 H locs ls hP hD hS (lv_sub hl [0, 1, 2, 3, 4, 5, 6] rfl) hF
      · have hF := if_f hF c0
        refine lv_aload_n hx hb dX7_listRows_36 rfl (lv_at hl 0 rfl) ?_
        refine va_get (D := (dC, dI)) (ci := 5) (v := .ref (a 8)) (C := RX7) (T := TX7) (N := 25) hx hb hts hinX7 hown hK hP 0 rfl rfl 10 (by decide) hf_36 (fun _ h9 => h9) rfl dX7_listRows_37 ?_
        refine lv_iload hx hb dX7_listRows_40 (lv_at hl 7 rfl) ?_
        refine lv_iconst (v := 0) hx hb dX7_listRows_42 (by decide) ?_
        obtain ⟨hi, hF⟩ := ck_of hF
        obtain ⟨listSize_6, e_listSize_6, hF⟩ := nm_ex hF
        refine kc_iast (j := x13_4.toNatClampNeg) (g := listSize_6) hx hb hK hP hD hS 8 0 rfl rfl rfl hi dX7_listRows_43 e_listSize_6 (fun H locs hP hD hS => ?_)
        have hP : va_P (dC, dI) vwCl (mW cI cJ h a forms prime turns lineT lineU kinds upper lower numbers q base least table rows lists listSize_6 tried other line makers touches made kindForm kindTurns kindWays) H := hP
        have hD : va_D A (mW cI cJ h a forms prime turns lineT lineU kinds upper lower numbers q base least table rows lists listSize_6 tried other line makers touches made kindForm kindTurns kindWays) := hD
        obtain ⟨x13_7, e_x13_7, hF⟩ := nm_ex hF
        refine lv_iinc (v := x13_7) (lv' := [(13, .int x13_7), (0, .ref h), (1, .long p0), (3, .long p1), (5, .long p2), (7, .long r_1), (9, .long r_2), (11, .long r_3)]) hx hb dX7_listRows_44 hl (k := 7) rfl (by rw [e_x13_7]; rfl) (by decide) rfl (fun ls hl => ?_)
        refine lv_goto (tgt := 30) hx hb dX7_listRows_47 (by decide) ?_
        exact ih30 x13_7 listSize_6 H locs ls hP hD hS (lv_sub hl [1, 2, 3, 4, 5, 6, 7, 0] rfl) hF
  exact hL30 fu (0 : Int32) listSize H locs ls hP hD hS (lv_sub hl [4, 5, 6, 7, 3, 2, 1, 0] rfl) hF
