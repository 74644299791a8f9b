def mW (cI : ClassId) (cJ : ClassId) (h : Nat) (a : Nat → Nat) (forms : Int32) (prime : Int32) (turns : Int32) (lineT : Int32) (lineU : Int32) (kinds : Int32) (upper : Int64) (lower : Int64) (numbers : Nat → Int32) (q : Nat → Int64) (base : Nat → Int64) (least : Nat → Int64) (table : Nat → Int64) (rows : Nat → Int64) (lists : Nat → Int64) (listSize : Nat → Int32) (tried : Nat → Int64) (other : Nat → Int64) (line : Nat → Int64) (makers : Nat → Int64) (touches : Nat → Int64) (made : Nat → Int64) (kindForm : Nat → Int64) (kindTurns : Nat → Int32) (kindWays : Nat → Int32) : va_W := [(h, .inr (5, [.int forms, .ref (a 1), .int prime, .ref (a 2), .ref (a 3), .ref (a 4), .int turns, .ref (a 5), .ref (a 6), .ref (a 7), .ref (a 8), .ref (a 9), .ref (a 10), .ref (a 11), .int lineT, .int lineU, .ref (a 12), .ref (a 13), .ref (a 14), .int kinds, .ref (a 15), .ref (a 16), .ref (a 17), .long upper, .long lower])), ((a 1), .inl (cI, 72, .inl numbers)), ((a 2), .inl (cJ, 6, .inr (.inl q))), ((a 3), .inl (cJ, 9, .inr (.inl base))), ((a 4), .inl (cJ, 6, .inr (.inl least))), ((a 5), .inl (cJ, 9, .inr (.inl table))), ((a 6), .inl (cJ, 9, .inr (.inl rows))), ((a 7), .inl (cJ, 5400, .inr (.inl lists))), ((a 8), .inl (cI, 3, .inl listSize)), ((a 9), .inl (cJ, 9, .inr (.inl tried))), ((a 10), .inl (cJ, 6, .inr (.inl other))), ((a 11), .inl (cJ, 3, .inr (.inl line))), ((a 12), .inl (cJ, 12, .inr (.inl makers))), ((a 13), .inl (cJ, 3, .inr (.inl touches))), ((a 14), .inl (cJ, 6, .inr (.inl made))), ((a 15), .inl (cJ, 102, .inr (.inl kindForm))), ((a 16), .inl (cI, 17, .inl kindTurns)), ((a 17), .inl (cI, 272, .inl kindWays))]
def fX7_in  (p0 : Int64) (p1 : Int64) (p2 : Int64) : Option (Int32) :=
  nm (fun (s_1 : Int32) => if s_1 = 0 ∨ s_1 = 1 then some s_1 else none) (fun (k18 : (Int32) → Option (Int32)) => nm ((k18 (0 : Int32))) (fun (k17 : Option (Int32)) => if p0 < p1 then ((k17)) else (if p2 < p0 then ((k17)) else ((k18 (1 : Int32))))))
def lkX7_in : List Cond := []
def vX7_in : List Cond := .code yX7_in cX7_in 6 (some .boolean) :: (lkX7_in ++ ([]))
theorem q_X7_in : ∀ w ∈ vX7_in, goodWord w = true := gd_cons rfl (gd_app (by decide +kernel) gd_nil)
abbrev rmX7_in : Room := { frames := 0, cells := 0, slots := 0, locals := 0 }
set_option maxHeartbeats 4000000 in
set_option maxRecDepth 100000 in
theorem c_X7_in (l : Launch) (p0 : Int64) (p1 : Int64) (p2 : Int64) (ro : Int32) (hF : fX7_in p0 p1 p2 = some ro) : Met l yX7_in vX7_in rmX7_in (va_Pc [.long p0, .long p1, .long p2] (fun _ => True)) (vp_Si (fun x => x = ro)) 0 0 (fun _ => False) := by
  refine Met.ofW (cc := cX7_in) (maxL := 6) (ret := (some .boolean)) (by decide) rfl ?_
  intro p e s m args below meth c s₁ B hml hv
  obtain ⟨rfl, -⟩ := hv
  have hx := B.exec
  have hb := B.bytes
  have hr := B.returns
  have hts := atoms_spec (ws := vX7_in) B.pre
  have hlk : ∀ w ∈ lkX7_in, w.before _ s = true := fun w h => hts w (List.mem_cons_of_mem _ (List.mem_append_left _ h))
  have hown : s.vm.findClass RX7 = some m.cls := findClass_of_methodNamed B.named
  have hlocks := B.notSynchronized
  have hl := lv_entry ([.long p0, .long p1, .long p2] : List Value) (n := 6) (Nat.le_of_ble_eq_true rfl)
  rw [lg_entry_eq]
  generalize (lg_sl ([.long p0, .long p1, .long p2] : List Value) ++ List.replicate (6 - (lg_sl ([.long p0, .long p1, .long p2] : List Value)).length) Slot.unset).toArray = ls at hl ⊢
  have hl : lv_has ls 6 [(0, .long p0), (2, .long p1), (4, .long p2)] := hl
  unfold fX7_in at hF
  refine W_Q (fun Q hQ => ?_)
  refine lv_lload_n hx hb dX7_in_0 rfl (lv_at hl 0 rfl) ?_
  refine lv_lload_n hx hb dX7_in_1 rfl (lv_at hl 1 rfl) ?_
  refine W.lcmp hx hb dX7_in_2 ?_
  obtain ⟨k18, e_k18, hF⟩ := nm_ex hF
  have hk18 : ∀ (s_1 : Int32) (ls : Array Slot), lv_has ls 6 [] → k18 s_1 = some ro → W p l e rmX7_in s m ([.long p0, .long p1, .long p2] : List Value).toArray below meth c s.heap [] 0 0 Q (F0 m 18 ls [.int s_1]) := by
    intro s_1 ls hl hF
    have hF := ka1 e_k18 hF
    obtain ⟨hz, hF⟩ := ck_of hF
    have q0 := sm1 hF
    refine W_Qe hQ ?_
    exact W.zret (ty := .boolean) hx hb hr (nz_bool hz) (fun t ht hW => ⟨_, rfl, q0, ht⟩) (fun _ h9 => by cases h9) dX7_in_18
  clear e_k18
  obtain ⟨k17, e_k17, hF⟩ := nm_ex hF
  have hk17 : ∀  (ls : Array Slot), lv_has ls 6 [] → k17 = some ro → W p l e rmX7_in s m ([.long p0, .long p1, .long p2] : List Value).toArray below meth c s.heap [] 0 0 Q (F0 m 17 ls []) := by
    intro ls hl hF
    have hF := ka0 e_k17 hF
    refine lv_iconst (v := 0) hx hb dX7_in_17 (by decide) ?_
    exact hk18 (0 : Int32) ls (lv_sub hl [] rfl) hF
  clear e_k17
  refine lv_if_lt (tgt := 17) hx hb dX7_in_3 (by decide) (fun c0 => ?_) (fun c0 => ?_)
  · have c0 := (lg_cmp_lt _ _).mp c0
    have hF := if_t hF c0
    exact hk17 ls (lv_sub hl [] rfl) hF
  · have c0 := (not_congr (lg_cmp_lt _ _)).mp c0
    have hF := if_f hF c0
    refine lv_lload_n hx hb dX7_in_6 rfl (lv_at hl 0 rfl) ?_
    refine lv_lload hx hb dX7_in_7 (lv_at hl 2 rfl) ?_
    refine W.lcmp hx hb dX7_in_9 ?_
    refine lv_if_gt (tgt := 17) hx hb dX7_in_10 (by decide) (fun c0 => ?_) (fun c0 => ?_)
    · have c0 := (lg_cmp_gt _ _).mp c0
      have hF := if_t hF c0
      exact hk17 ls (lv_sub hl [] rfl) hF
    · have c0 := (not_congr (lg_cmp_gt _ _)).mp c0
      have hF := if_f hF c0
      refine lv_iconst (v := 1) hx hb dX7_in_13 (by decide) ?_
      refine lv_goto (tgt := 18) hx hb dX7_in_14 (by decide) ?_
      exact hk18 (1 : Int32) ls (lv_sub hl [] rfl) hF
def fX7_root_L7 (p0 : Int64) : Nat → (Int64) → (Int64) → Option (Int64)
  | 0, _, _ => none
  | n + 1, x2_1, x4_2 => if x4_2 ≤ (0 : Int64) then (some x2_1) else (nm (fun (s_3 : Int64) => nm (x4_2 >>> ((1 : Int32).toInt64 &&& 63)) (fun (x4_4 : Int64) => (fX7_root_L7 p0 n s_3 x4_4))) (fun (k36 : (Int64) → Option (Int64)) => if p0 < ((x2_1 + x4_2) * (x2_1 + x4_2)) then ((k36 x2_1)) else ((k36 (x2_1 + x4_2)))))
def fX7_root (fu : Nat)  (p0 : Int64) : Option (Int64) :=
  (fX7_root_L7 p0 fu (0 : Int64) (1048576 : Int64))
def lkX7_root : List Cond := [.constantLong RX7 72 (1048576)]
def vX7_root : List Cond := .code yX7_root cX7_root 6 (some .long) :: (lkX7_root ++ ([]))
theorem q_X7_root : ∀ w ∈ vX7_root, goodWord w = true := gd_cons rfl (gd_app (by decide +kernel) gd_nil)
abbrev rmX7_root : Room := { frames := 0, cells := 0, slots := 0, locals := 0 }
set_option maxHeartbeats 4000000 in
set_option maxRecDepth 100000 in
theorem c_X7_root (l : Launch) (fu : Nat) (p0 : Int64) (ro : Int64) (hF : fX7_root fu p0 = some ro) : Met l yX7_root vX7_root rmX7_root (va_Pc [.long p0] (fun _ => True)) (vp_Sl (fun x => x = ro)) 0 0 (fun _ => False) := by
  refine Met.ofW (cc := cX7_root) (maxL := 6) (ret := (some .long)) (by decide) rfl ?_
  intro p e s m args below meth c s₁ B hml hv
  obtain ⟨rfl, -⟩ := hv
  have hx := B.exec
  have hb := B.bytes
  have hr := B.returns
  have hts := atoms_spec (ws := vX7_root) B.pre
  have hlk : ∀ w ∈ lkX7_root, w.before _ s = true := fun w h => hts w (List.mem_cons_of_mem _ (List.mem_append_left _ h))
  have hown : s.vm.findClass RX7 = some m.cls := findClass_of_methodNamed B.named
  have hlocks := B.notSynchronized
  have hl := lv_entry ([.long p0] : List Value) (n := 6) (Nat.le_of_ble_eq_true rfl)
  rw [lg_entry_eq]
  generalize (lg_sl ([.long p0] : List Value) ++ List.replicate (6 - (lg_sl ([.long p0] : List Value)).length) Slot.unset).toArray = ls at hl ⊢
  have hl : lv_has ls 6 [(0, .long p0)] := hl
  unfold fX7_root at hF
  refine W_Q (fun Q hQ => ?_)
  refine lv_lconst (v := 0) hx hb dX7_root_0 (by decide) ?_
  refine lv_lstore_n (lv' := [(2, .long (0 : Int64)), (0, .long p0)]) hx hb dX7_root_1 rfl hl (by decide) rfl (fun ls hl => ?_)
  refine lv_ldc2 (v := (1048576)) hx hb hown (hlk (.constantLong RX7 72 (1048576)) (by decide +kernel)) dX7_root_2 ?_
  refine lv_lstore (lv' := [(4, .long (1048576 : Int64)), (2, .long (0 : Int64)), (0, .long p0)]) hx hb dX7_root_5 hl (by decide) rfl (fun ls hl => ?_)
  have hL7 : ∀ n : Nat, ∀ (x2_1 : Int64) (x4_2 : Int64) (ls : Array Slot), lv_has ls 6 [(0, .long p0), (2, .long x2_1), (4, .long x4_2)] → fX7_root_L7 p0 n x2_1 x4_2 = some ro → W p l e rmX7_root s m ([.long p0] : List Value).toArray below meth c s.heap [] 0 0 Q (F0 m 7 ls []) := by
    intro n
    induction n with
    | zero => intro x2_1 x4_2 ls hl hF; rw [fX7_root_L7] at hF; cases hF
    | succ n ih7 =>
      intro x2_1 x4_2 ls hl hF
      rw [fX7_root_L7] at hF
      refine lv_lload hx hb dX7_root_7 (lv_at hl 2 rfl) ?_
      refine lv_lconst (v := 0) hx hb dX7_root_9 (by decide) ?_
      refine W.lcmp hx hb dX7_root_10 ?_
      refine lv_if_le (tgt := 46) hx hb dX7_root_11 (by decide) (fun c0 => ?_) (fun c0 => ?_)
      · have c0 := (lg_cmp_le _ _).mp c0
        have hF := if_t hF c0
        refine lv_lload_n hx hb dX7_root_46 rfl (lv_at hl 1 rfl) ?_
        have q0 := sm1 hF
        refine W_Qe hQ ?_
        exact W.lret hx hb hr (fun t ht hW => ⟨_, rfl, q0, ht⟩) (fun _ h9 => by cases h9) dX7_root_47
      · have c0 := (not_congr (lg_cmp_le _ _)).mp c0
        have hF := if_f hF c0
        refine lv_lload_n hx hb dX7_root_14 rfl (lv_at hl 1 rfl) ?_
        refine lv_lload hx hb dX7_root_15 (lv_at hl 2 rfl) ?_
        refine lv_ladd hx hb dX7_root_17 ?_
        refine lv_lload_n hx hb dX7_root_18 rfl (lv_at hl 1 rfl) ?_
        refine lv_lload hx hb dX7_root_19 (lv_at hl 2 rfl) ?_
        refine lv_ladd hx hb dX7_root_21 ?_
        refine lv_lmul hx hb dX7_root_22 ?_
        refine lv_lload_n hx hb dX7_root_23 rfl (lv_at hl 0 rfl) ?_
        refine W.lcmp hx hb dX7_root_24 ?_
        obtain ⟨k36, e_k36, hF⟩ := nm_ex hF
        have hk36 : ∀ (s_3 : Int64) (ls : Array Slot), lv_has ls 6 [(0, .long p0), (4, .long x4_2)] → k36 s_3 = some ro → W p l e rmX7_root s m ([.long p0] : List Value).toArray below meth c s.heap [] 0 0 Q (F0 m 36 ls [.long s_3]) := by
          intro s_3 ls hl hF
          have hF := ka1 e_k36 hF
          refine lv_lstore_n (lv' := [(2, .long s_3), (0, .long p0), (4, .long x4_2)]) hx hb dX7_root_36 rfl hl (by decide) rfl (fun ls hl => ?_)
          refine lv_lload hx hb dX7_root_37 (lv_at hl 2 rfl) ?_
          refine lv_iconst (v := 1) hx hb dX7_root_39 (by decide) ?_
          refine lv_lshr (v := (x4_2 >>> ((1 : Int32).toInt64 &&& 63))) hx hb dX7_root_40 rfl ?_
          refine lv_topl (fun x4_4 e_x4_4 => ?_)
          have hF := nm_at hF e_x4_4
          refine lv_lstore (lv' := [(4, .long x4_4), (2, .long s_3), (0, .long p0)]) hx hb dX7_root_41 hl (by decide) rfl (fun ls hl => ?_)
          refine lv_goto (tgt := 7) hx hb dX7_root_43 (by decide) ?_
          exact ih7 s_3 x4_4 ls (lv_sub hl [2, 1, 0] rfl) hF
        clear e_k36
        refine lv_if_gt (tgt := 35) hx hb dX7_root_25 (by decide) (fun c0 => ?_) (fun c0 => ?_)
        · have c0 := (lg_cmp_gt _ _).mp c0
          have hF := if_t hF c0
          refine lv_lload_n hx hb dX7_root_35 rfl (lv_at hl 1 rfl) ?_
          exact hk36 x2_1 ls (lv_sub hl [0, 2] rfl) hF
        · have c0 := (not_congr (lg_cmp_gt _ _)).mp c0
          have hF := if_f hF c0
          refine lv_lload_n hx hb dX7_root_28 rfl (lv_at hl 1 rfl) ?_
          refine lv_lload hx hb dX7_root_29 (lv_at hl 2 rfl) ?_
          refine lv_ladd hx hb dX7_root_31 ?_
          refine lv_goto (tgt := 36) hx hb dX7_root_32 (by decide) ?_
          exact hk36 (x2_1 + x4_2) ls (lv_sub hl [0, 2] rfl) hF
  exact hL7 fu (0 : Int64) (1048576 : Int64) ls (lv_sub hl [2, 1, 0] rfl) hF
def fX7_touchAt  (p0 : Int32) (p1 : Int32) : Option (Int32) :=
  nm (((6 : Int32) - p0) - p1) (fun (v_1 : Int32) => some v_1)
def lkX7_touchAt : List Cond := []
def vX7_touchAt : List Cond := .code yX7_touchAt cX7_touchAt 2 (some .int) :: (lkX7_touchAt ++ ([]))
theorem q_X7_touchAt : ∀ w ∈ vX7_touchAt, goodWord w = true := gd_cons rfl (gd_app (by decide +kernel) gd_nil)
abbrev rmX7_touchAt : Room := { frames := 0, cells := 0, slots := 0, locals := 0 }
set_option maxHeartbeats 4000000 in
set_option maxRecDepth 100000 in
theorem c_X7_touchAt (l : Launch) (p0 : Int32) (p1 : Int32) (ro : Int32) (hF : fX7_touchAt p0 p1 = some ro) : Met l yX7_touchAt vX7_touchAt rmX7_touchAt (va_Pc [.int p0, .int p1] (fun _ => True)) (vp_Si (fun x => x = ro)) 0 0 (fun _ => False) := by
  refine Met.ofW (cc := cX7_touchAt) (maxL := 2) (ret := (some .int)) (by decide) rfl ?_
  intro p e s m args below meth c s₁ B hml hv
  obtain ⟨rfl, -⟩ := hv
  have hx := B.exec
  have hb := B.bytes
  have hr := B.returns
  have hts := atoms_spec (ws := vX7_touchAt) B.pre
  have hlk : ∀ w ∈ lkX7_touchAt, w.before _ s = true := fun w h => hts w (List.mem_cons_of_mem _ (List.mem_append_left _ h))
  have hown : s.vm.findClass RX7 = some m.cls := findClass_of_methodNamed B.named
  have hlocks := B.notSynchronized
  have hl := lv_entry ([.int p0, .int p1] : List Value) (n := 2) (Nat.le_of_ble_eq_true rfl)
  rw [lg_entry_eq]
  generalize (lg_sl ([.int p0, .int p1] : List Value) ++ List.replicate (2 - (lg_sl ([.int p0, .int p1] : List Value)).length) Slot.unset).toArray = ls at hl ⊢
  have hl : lv_has ls 2 [(0, .int p0), (1, .int p1)] := hl
  unfold fX7_touchAt at hF
  refine W_Q (fun Q hQ => ?_)
  refine lv_bipush (v := (6)) hx hb dX7_touchAt_0 (by decide) ?_
  refine lv_iload_n hx hb dX7_touchAt_2 rfl (lv_at hl 0 rfl) ?_
  refine lv_isub hx hb dX7_touchAt_3 ?_
  refine lv_iload_n hx hb dX7_touchAt_4 rfl (lv_at hl 1 rfl) ?_
  refine lv_isub hx hb dX7_touchAt_5 ?_
  refine lv_topi (fun v_1 e_v_1 => ?_)
  have hF := nm_at hF e_v_1
  have q0 := sm1 hF
  refine W_Qe hQ ?_
  exact W.iret hx hb hr (fun t ht hW => ⟨_, rfl, q0, ht⟩) (fun _ h9 => by cases h9) dX7_touchAt_6
def fX7_cross  (p0 : Int64) (p1 : Int64) (p2 : Int64) (p3 : Int64) (p4 : Int64) (p5 : Int64) (p6 : Int32) : Option (Int64) :=
  nm (fun (s_1 : Int64) => some s_1) (fun (k46 : (Int64) → Option (Int64)) => if p6 = 0 then ((k46 ((p1 * p5) - (p2 * p4)))) else (if p6 = (1 : Int32) then ((k46 ((p2 * p3) - (p0 * p5)))) else ((k46 ((p0 * p4) - (p1 * p3))))))
def lkX7_cross : List Cond := []
def vX7_cross : List Cond := .code yX7_cross cX7_cross 13 (some .long) :: (lkX7_cross ++ ([]))
theorem q_X7_cross : ∀ w ∈ vX7_cross, goodWord w = true := gd_cons rfl (gd_app (by decide +kernel) gd_nil)
abbrev rmX7_cross : Room := { frames := 0, cells := 0, slots := 0, locals := 0 }
set_option maxHeartbeats 4000000 in
set_option maxRecDepth 100000 in
theorem c_X7_cross (l : Launch) (p0 : Int64) (p1 : Int64) (p2 : Int64) (p3 : Int64) (p4 : Int64) (p5 : Int64) (p6 : Int32) (ro : Int64) (hF : fX7_cross p0 p1 p2 p3 p4 p5 p6 = some ro) : Met l yX7_cross vX7_cross rmX7_cross (va_Pc [.long p0, .long p1, .long p2, .long p3, .long p4, .long p5, .int p6] (fun _ => True)) (vp_Sl (fun x => x = ro)) 0 0 (fun _ => False) := by
  refine Met.ofW (cc := cX7_cross) (maxL := 13) (ret := (some .long)) (by decide) rfl ?_
  intro p e s m args below meth c s₁ B hml hv
  obtain ⟨rfl, -⟩ := hv
  have hx := B.exec
  have hb := B.bytes
  have hr := B.returns
  have hts := atoms_spec (ws := vX7_cross) B.pre
  have hlk : ∀ w ∈ lkX7_cross, w.before _ s = true := fun w h => hts w (List.mem_cons_of_mem _ (List.mem_append_left _ h))
  have hown : s.vm.findClass RX7 = some m.cls := findClass_of_methodNamed B.named
  have hlocks := B.notSynchronized
  have hl := lv_entry ([.long p0, .long p1, .long p2, .long p3, .long p4, .long p5, .int p6] : List Value) (n := 13) (Nat.le_of_ble_eq_true rfl)
  rw [lg_entry_eq]
  generalize (lg_sl ([.long p0, .long p1, .long p2, .long p3, .long p4, .long p5, .int p6] : List Value) ++ List.replicate (13 - (lg_sl ([.long p0, .long p1, .long p2, .long p3, .long p4, .long p5, .int p6] : List Value)).length) Slot.unset).toArray = ls at hl ⊢
  have hl : lv_has ls 13 [(0, .long p0), (2, .long p1), (4, .long p2), (6, .long p3), (8, .long p4), (10, .long p5), (12, .int p6)] := hl
  unfold fX7_cross at hF
  refine W_Q (fun Q hQ => ?_)
  refine lv_iload hx hb dX7_cross_0 (lv_at hl 6 rfl) ?_
  obtain ⟨k46, e_k46, hF⟩ := nm_ex hF
  have hk46 : ∀ (s_1 : Int64) (ls : Array Slot), lv_has ls 13 [] → k46 s_1 = some ro → W p l e rmX7_cross s m ([.long p0, .long p1, .long p2, .long p3, .long p4, .long p5, .int p6] : List Value).toArray below meth c s.heap [] 0 0 Q (F0 m 46 ls [.long s_1]) := by
    intro s_1 ls hl hF
    have hF := ka1 e_k46 hF
    have q0 := sm1 hF
    refine W_Qe hQ ?_
    exact W.lret hx hb hr (fun t ht hW => ⟨_, rfl, q0, ht⟩) (fun _ h9 => by cases h9) dX7_cross_46
  clear e_k46
  refine lv_if_ne (tgt := 18) hx hb dX7_cross_2 (by decide) (fun c0 => ?_) (fun c0 => ?_)
  · have hF := if_f hF c0
    refine lv_iload hx hb dX7_cross_18 (lv_at hl 6 rfl) ?_
    refine lv_iconst (v := 1) hx hb dX7_cross_20 (by decide) ?_
    refine lv_icmp_ne (tgt := 37) hx hb dX7_cross_21 (by decide) (fun c0 => ?_) (fun c0 => ?_)
    · have hF := if_f hF c0
      refine lv_lload_n hx hb dX7_cross_37 rfl (lv_at hl 0 rfl) ?_
      refine lv_lload hx hb dX7_cross_38 (lv_at hl 4 rfl) ?_
      refine lv_lmul hx hb dX7_cross_40 ?_
      refine lv_lload_n hx hb dX7_cross_41 rfl (lv_at hl 1 rfl) ?_
      refine lv_lload hx hb dX7_cross_42 (lv_at hl 3 rfl) ?_
      refine lv_lmul hx hb dX7_cross_44 ?_
      refine lv_lsub hx hb dX7_cross_45 ?_
      exact hk46 ((p0 * p4) - (p1 * p3)) ls (lv_sub hl [] rfl) hF
    · have hF := if_t hF c0
      refine lv_lload hx hb dX7_cross_24 (lv_at hl 2 rfl) ?_
      refine lv_lload hx hb dX7_cross_26 (lv_at hl 3 rfl) ?_
      refine lv_lmul hx hb dX7_cross_28 ?_
      refine lv_lload_n hx hb dX7_cross_29 rfl (lv_at hl 0 rfl) ?_
      refine lv_lload hx hb dX7_cross_30 (lv_at hl 5 rfl) ?_
      refine lv_lmul hx hb dX7_cross_32 ?_
      refine lv_lsub hx hb dX7_cross_33 ?_
      refine lv_goto (tgt := 46) hx hb dX7_cross_34 (by decide) ?_
      exact hk46 ((p2 * p3) - (p0 * p5)) ls (lv_sub hl [] rfl) hF
  · have hF := if_t hF c0
    refine lv_lload_n hx hb dX7_cross_5 rfl (lv_at hl 1 rfl) ?_
    refine lv_lload hx hb dX7_cross_6 (lv_at hl 5 rfl) ?_
    refine lv_lmul hx hb dX7_cross_8 ?_
    refine lv_lload hx hb dX7_cross_9 (lv_at hl 2 rfl) ?_
    refine lv_lload hx hb dX7_cross_11 (lv_at hl 4 rfl) ?_
    refine lv_lmul hx hb dX7_cross_13 ?_
    refine lv_lsub hx hb dX7_cross_14 ?_
    refine lv_goto (tgt := 46) hx hb dX7_cross_15 (by decide) ?_
    exact hk46 ((p1 * p5) - (p2 * p4)) ls (lv_sub hl [] rfl) hF
def fX7_size  (p0 : Int64) : Option (Int64) :=
  nm (fun (s_1 : Int64) => some s_1) (fun (k12 : (Int64) → Option (Int64)) => if (0 : Int64) ≤ p0 then ((k12 p0)) else ((k12 (-p0))))
def lkX7_size : List Cond := []
def vX7_size : List Cond := .code yX7_size cX7_size 2 (some .long) :: (lkX7_size ++ ([]))
theorem q_X7_size : ∀ w ∈ vX7_size, goodWord w = true := gd_cons rfl (gd_app (by decide +kernel) gd_nil)
abbrev rmX7_size : Room := { frames := 0, cells := 0, slots := 0, locals := 0 }
set_option maxHeartbeats 4000000 in
set_option maxRecDepth 100000 in
theorem c_X7_size (l : Launch) (p0 : Int64) (ro : Int64) (hF : fX7_size p0 = some ro) : Met l yX7_size vX7_size rmX7_size (va_Pc [.long p0] (fun _ => True)) (vp_Sl (fun x => x = ro)) 0 0 (fun _ => False) := by
  refine Met.ofW (cc := cX7_size) (maxL := 2) (ret := (some .long)) (by decide) rfl ?_
  intro p e s m args below meth c s₁ B hml hv
  obtain ⟨rfl, -⟩ := hv
  have hx := B.exec
  have hb := B.bytes
  have hr := B.returns
  have hts := atoms_spec (ws := vX7_size) B.pre
  have hlk : ∀ w ∈ lkX7_size, w.before _ s = true := fun w h => hts w (List.mem_cons_of_mem _ (List.mem_append_left _ h))
  have hown : s.vm.findClass RX7 = some m.cls := findClass_of_methodNamed B.named
  have hlocks := B.notSynchronized
  have hl := lv_entry ([.long p0] : List Value) (n := 2) (Nat.le_of_ble_eq_true rfl)
  rw [lg_entry_eq]
  generalize (lg_sl ([.long p0] : List Value) ++ List.replicate (2 - (lg_sl ([.long p0] : List Value)).length) Slot.unset).toArray = ls at hl ⊢
  have hl : lv_has ls 2 [(0, .long p0)] := hl
  unfold fX7_size at hF
  refine W_Q (fun Q hQ => ?_)
  refine lv_lload_n hx hb dX7_size_0 rfl (lv_at hl 0 rfl) ?_
  refine lv_lconst (v := 0) hx hb dX7_size_1 (by decide) ?_
  refine W.lcmp hx hb dX7_size_2 ?_
  obtain ⟨k12, e_k12, hF⟩ := nm_ex hF
  have hk12 : ∀ (s_1 : Int64) (ls : Array Slot), lv_has ls 2 [] → k12 s_1 = some ro → W p l e rmX7_size s m ([.long p0] : List Value).toArray below meth c s.heap [] 0 0 Q (F0 m 12 ls [.long s_1]) := by
    intro s_1 ls hl hF
    have hF := ka1 e_k12 hF
    have q0 := sm1 hF
    refine W_Qe hQ ?_
    exact W.lret hx hb hr (fun t ht hW => ⟨_, rfl, q0, ht⟩) (fun _ h9 => by cases h9) dX7_size_12
  clear e_k12
  refine lv_if_ge (tgt := 11) hx hb dX7_size_3 (by decide) (fun c0 => ?_) (fun c0 => ?_)
  · have c0 := (lg_cmp_ge _ _).mp c0
    have hF := if_t hF c0
    refine lv_lload_n hx hb dX7_size_11 rfl (lv_at hl 0 rfl) ?_
    exact hk12 p0 ls (lv_sub hl [] rfl) hF
  · have c0 := (not_congr (lg_cmp_ge _ _)).mp c0
    have hF := if_f hF c0
    refine lv_lload_n hx hb dX7_size_6 rfl (lv_at hl 0 rfl) ?_
    refine lv_lneg hx hb dX7_size_7 ?_
    refine lv_goto (tgt := 12) hx hb dX7_size_8 (by decide) ?_
    exact hk12 (-p0) ls (lv_sub hl [] rfl) hF
def fX7_common_L6  : Nat → (Int64) → (Int64) → Option (Int64)
  | 0, _, _ => none
  | n + 1, x4_1, x6_2 => if x6_2 = (0 : Int64) then (some x4_1) else (if ¬ x6_2 = 0 then nm (x4_1 - x4_1 / x6_2 * x6_2) (fun (x8_3 : Int64) => (fX7_common_L6 n x6_2 x8_3)) else none)
def fX7_common (fu : Nat)  (p0 : Int64) (p1 : Int64) : Option (Int64) :=
  (fX7_common_L6 fu p0 p1)
def lkX7_common : List Cond := []
def vX7_common : List Cond := .code yX7_common cX7_common 10 (some .long) :: (lkX7_common ++ ([]))
theorem q_X7_common : ∀ w ∈ vX7_common, goodWord w = true := gd_cons rfl (gd_app (by decide +kernel) gd_nil)
abbrev rmX7_common : Room := { frames := 0, cells := 0, slots := 0, locals := 0 }
set_option maxHeartbeats 4000000 in
set_option maxRecDepth 100000 in
theorem c_X7_common (l : Launch) (fu : Nat) (p0 : Int64) (p1 : Int64) (ro : Int64) (hF : fX7_common fu p0 p1 = some ro) : Met l yX7_common vX7_common rmX7_common (va_Pc [.long p0, .long p1] (fun _ => True)) (vp_Sl (fun x => x = ro)) 0 0 (fun _ => False) := by
  refine Met.ofW (cc := cX7_common) (maxL := 10) (ret := (some .long)) (by decide) rfl ?_
  intro p e s m args below meth c s₁ B hml hv
  obtain ⟨rfl, -⟩ := hv
  have hx := B.exec
  have hb := B.bytes
  have hr := B.returns
  have hts := atoms_spec (ws := vX7_common) B.pre
  have hlk : ∀ w ∈ lkX7_common, w.before _ s = true := fun w h => hts w (List.mem_cons_of_mem _ (List.mem_append_left _ h))
  have hown : s.vm.findClass RX7 = some m.cls := findClass_of_methodNamed B.named
  have hlocks := B.notSynchronized
  have hl := lv_entry ([.long p0, .long p1] : List Value) (n := 10) (Nat.le_of_ble_eq_true rfl)
  rw [lg_entry_eq]
  generalize (lg_sl ([.long p0, .long p1] : List Value) ++ List.replicate (10 - (lg_sl ([.long p0, .long p1] : List Value)).length) Slot.unset).toArray = ls at hl ⊢
  have hl : lv_has ls 10 [(0, .long p0), (2, .long p1)] := hl
  unfold fX7_common at hF
  refine W_Q (fun Q hQ => ?_)
  refine lv_lload_n hx hb dX7_common_0 rfl (lv_at hl 0 rfl) ?_
  refine lv_lstore (lv' := [(4, .long p0), (0, .long p0), (2, .long p1)]) hx hb dX7_common_1 hl (by decide) rfl (fun ls hl => ?_)
  refine lv_lload_n hx hb dX7_common_3 rfl (lv_at hl 2 rfl) ?_
  refine lv_lstore (lv' := [(6, .long p1), (4, .long p0), (0, .long p0), (2, .long p1)]) hx hb dX7_common_4 hl (by decide) rfl (fun ls hl => ?_)
  have hL6 : ∀ n : Nat, ∀ (x4_1 : Int64) (x6_2 : Int64) (ls : Array Slot), lv_has ls 10 [(4, .long x4_1), (6, .long x6_2)] → fX7_common_L6 n x4_1 x6_2 = some ro → W p l e rmX7_common s m ([.long p0, .long p1] : List Value).toArray below meth c s.heap [] 0 0 Q (F0 m 6 ls []) := by
    intro n
    induction n with
    | zero => intro x4_1 x6_2 ls hl hF; rw [fX7_common_L6] at hF; cases hF
    | succ n ih6 =>
      intro x4_1 x6_2 ls hl hF
      rw [fX7_common_L6] at hF
      refine lv_lload hx hb dX7_common_6 (lv_at hl 1 rfl) ?_
      refine lv_lconst (v := 0) hx hb dX7_common_8 (by decide) ?_
      refine W.lcmp hx hb dX7_common_9 ?_
      refine lv_if_eq (tgt := 31) hx hb dX7_common_10 (by decide) (fun c0 => ?_) (fun c0 => ?_)
      · have c0 := (lg_cmp_eq _ _).mp c0
        have hF := if_t hF c0
        refine lv_lload hx hb dX7_common_31 (lv_at hl 0 rfl) ?_
        have q0 := sm1 hF
        refine W_Qe hQ ?_
        exact W.lret hx hb hr (fun t ht hW => ⟨_, rfl, q0, ht⟩) (fun _ h9 => by cases h9) dX7_common_33
      · have c0 := (not_congr (lg_cmp_eq _ _)).mp c0
        have hF := if_f hF c0
        refine lv_lload hx hb dX7_common_13 (lv_at hl 0 rfl) ?_
        refine lv_lload hx hb dX7_common_15 (lv_at hl 1 rfl) ?_
        obtain ⟨hz, hF⟩ := ck_of hF
        refine lv_lrem hx hb dX7_common_17 hz ?_
        refine lv_topl (fun x8_3 e_x8_3 => ?_)
        have hF := nm_at hF e_x8_3
        refine lv_lstore (lv' := [(8, .long x8_3), (4, .long x4_1), (6, .long x6_2)]) hx hb dX7_common_18 hl (by decide) rfl (fun ls hl => ?_)
        refine lv_lload hx hb dX7_common_20 (lv_at hl 2 rfl) ?_
        refine lv_lstore (lv' := [(4, .long x6_2), (8, .long x8_3), (6, .long x6_2)]) hx hb dX7_common_22 hl (by decide) rfl (fun ls hl => ?_)
        refine lv_lload hx hb dX7_common_24 (lv_at hl 1 rfl) ?_
        refine lv_lstore (lv' := [(6, .long x8_3), (4, .long x6_2), (8, .long x8_3)]) hx hb dX7_common_26 hl (by decide) rfl (fun ls hl => ?_)
        refine lv_goto (tgt := 6) hx hb dX7_common_28 (by decide) ?_
        exact ih6 x6_2 x8_3 ls (lv_sub hl [1, 0] rfl) hF
  exact hL6 fu p0 p1 ls (lv_sub hl [1, 0] rfl) hF
