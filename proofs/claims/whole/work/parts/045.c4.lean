def fX6_isUnknown (held : Int32) (p0 : Int32) : Option (Int32) :=
  nm (fun (s_1 : Int32) => if s_1 = 0 ∨ s_1 = 1 then some s_1 else none) (fun (k17 : (Int32) → Option (Int32)) => nm ((k17 (1 : Int32))) (fun (k12 : Option (Int32)) => if p0 < 0 then ((k12)) else (if p0 < held then ((k17 (0 : Int32))) else ((k12)))))
def lkX6_isUnknown : List Cond := [.fieldLink RX6 40 "KinForms" "held" "I"]
def vX6_isUnknown : List Cond := .code yX6_isUnknown cX6_isUnknown 2 (some .boolean) :: (lkX6_isUnknown ++ (wsX60 ++ ([])))
theorem q_X6_isUnknown : ∀ w ∈ vX6_isUnknown, goodWord w = true := gd_cons rfl (gd_app (by decide +kernel) (gd_app q_wsX60 gd_nil))
abbrev rmX6_isUnknown : Room := { frames := 0, cells := 0, slots := 0, locals := 0 }
set_option maxHeartbeats 4000000 in
set_option maxRecDepth 100000 in
theorem c_X6_isUnknown (l : Launch) (dC : Nat → ClassId) (dI : Nat → Nat → Nat) (cI : ClassId) (h : Nat) (a : Nat → Nat) (held : Int32) (p_ : Int32) (p0 : Int32) (ro : Int32) (hF : fX6_isUnknown held p0 = some ro) : Met l yX6_isUnknown vX6_isUnknown rmX6_isUnknown (va_Pc [.ref h, .int p0] (rPk (dC, dI) vwCl (kW0 cI h a held p_) [(cI, .int)])) (vp_Si (fun x => x = ro)) 0 0 (fun _ => False) := by
  refine Met.ofW (cc := cX6_isUnknown) (maxL := 2) (ret := (some .boolean)) (by decide) rfl ?_
  intro p e s m args below meth c s₁ B hml hv
  obtain ⟨rfl, hP, hK, hN⟩ := hv
  have hx := B.exec
  have hb := B.bytes
  have hr := B.returns
  have hts := atoms_spec (ws := vX6_isUnknown) B.pre
  have hlk : ∀ w ∈ lkX6_isUnknown, w.before _ s = true := fun w h => hts w (List.mem_cons_of_mem _ (List.mem_append_left _ h))
  have hown : s.vm.findClass RX6 = some m.cls := findClass_of_methodNamed B.named
  have hlocks := B.notSynchronized
  have hinX6 : ∀ w ∈ wsX60, w ∈ vX6_isUnknown := fun w h => List.mem_cons_of_mem _ (List.mem_append_right _ (List.mem_append_left _ h))
  have hf_40 := hlk (.fieldLink RX6 40 "KinForms" "held" "I") (by decide +kernel)
  have hl := lv_entry ([.ref h, .int p0] : List Value) (n := 2) (Nat.le_of_ble_eq_true rfl)
  rw [lg_entry_eq]
  generalize (lg_sl ([.ref h, .int p0] : List Value) ++ List.replicate (2 - (lg_sl ([.ref h, .int p0] : List Value)).length) Slot.unset).toArray = ls at hl ⊢
  have hl : lv_has ls 2 [(0, .ref h), (1, .int p0)] := hl
  unfold fX6_isUnknown at hF
  refine W_Q (fun Q hQ => ?_)
  refine lv_iload_n hx hb dX6_isUnknown_0 rfl (lv_at hl 1 rfl) ?_
  obtain ⟨k17, e_k17, hF⟩ := nm_ex hF
  have hk17 : ∀ (s_1 : Int32) (ls : Array Slot), lv_has ls 2 [] → k17 s_1 = some ro → W p l e rmX6_isUnknown s m ([.ref h, .int p0] : List Value).toArray below meth c s.heap [] 0 0 Q (F0 m 17 ls [.int s_1]) := by
    intro s_1 ls hl hF
    have hF := ka1 e_k17 hF
    obtain ⟨hz, hF⟩ := ck_of hF
    have q0 := sm1 hF
    refine W_Qe hQ ?_
    exact W.zret (ty := .boolean) hx hb hr (nz_bool hz) (fun t ht hW => ⟨_, rfl, q0, ht⟩) (fun _ h9 => by cases h9) dX6_isUnknown_17
  clear e_k17
  obtain ⟨k12, e_k12, hF⟩ := nm_ex hF
  have hk12 : ∀  (ls : Array Slot), lv_has ls 2 [] → k12 = some ro → W p l e rmX6_isUnknown s m ([.ref h, .int p0] : List Value).toArray below meth c s.heap [] 0 0 Q (F0 m 12 ls []) := by
    intro ls hl hF
    have hF := ka0 e_k12 hF
    refine lv_iconst (v := 1) hx hb dX6_isUnknown_12 (by decide) ?_
    refine lv_goto (tgt := 17) hx hb dX6_isUnknown_13 (by decide) ?_
    exact hk17 (1 : Int32) ls (lv_sub hl [] rfl) hF
  clear e_k12
  refine lv_if_lt (tgt := 12) hx hb dX6_isUnknown_1 (by decide) (fun c0 => ?_) (fun c0 => ?_)
  · have hF := if_t hF c0
    exact hk12 ls (lv_sub hl [] rfl) hF
  · have hF := if_f hF c0
    refine lv_iload_n hx hb dX6_isUnknown_4 rfl (lv_at hl 1 rfl) ?_
    refine lv_aload_n hx hb dX6_isUnknown_5 rfl (lv_at hl 0 rfl) ?_
    refine va_get (D := (dC, dI)) (ci := 4) (v := .int held) (C := RX6) (T := TX6) (N := 8) hx hb hts hinX6 hown hK hP 0 rfl rfl 6 (by decide) hf_40 (fun _ h9 => h9) rfl dX6_isUnknown_6 ?_
    refine lv_icmp_lt (tgt := 16) hx hb dX6_isUnknown_9 (by decide) (fun c0 => ?_) (fun c0 => ?_)
    · have hF := if_t hF c0
      refine lv_iconst (v := 0) hx hb dX6_isUnknown_16 (by decide) ?_
      exact hk17 (0 : Int32) ls (lv_sub hl [] rfl) hF
    · have hF := if_f hF c0
      exact hk12 ls (lv_sub hl [] rfl) hF
def fX6_give (given : Nat → Int32) (p0 : Int32) (p1 : Int32) (p2 : Int32) (p3 : Int32) (p4 : Int32) (p5 : Int32) : Option ((Nat → Int32)) :=
  nm (upd given 0 p0) (fun (given_1 : Nat → Int32) => nm (upd given_1 1 p1) (fun (given_2 : Nat → Int32) => nm (upd given_2 2 p2) (fun (given_3 : Nat → Int32) => nm (upd given_3 3 p3) (fun (given_4 : Nat → Int32) => nm (upd given_4 4 p4) (fun (given_5 : Nat → Int32) => nm (upd given_5 5 p5) (fun (given_6 : Nat → Int32) => some given_6))))))
def lkX6_give : List Cond := [.fieldLink RX6 30 "KinForms" "given" "[I"]
def vX6_give : List Cond := .code yX6_give cX6_give 7 none :: (lkX6_give ++ (wsX60 ++ ([])))
theorem q_X6_give : ∀ w ∈ vX6_give, goodWord w = true := gd_cons rfl (gd_app (by decide +kernel) (gd_app q_wsX60 gd_nil))
abbrev rmX6_give : Room := { frames := 0, cells := 0, slots := 0, locals := 0 }
set_option maxHeartbeats 4000000 in
set_option maxRecDepth 100000 in
theorem c_X6_give (l : Launch) (dC : Nat → ClassId) (dI : Nat → Nat → Nat) (cI : ClassId) (h : Nat) (a : Nat → Nat) (sz : Nat) (held : Int32) (p_ : Int32) (given : Nat → Int32) (p0 : Int32) (p1 : Int32) (p2 : Int32) (p3 : Int32) (p4 : Int32) (p5 : Int32) (o_given : Nat → Int32) (hF : fX6_give given p0 p1 p2 p3 p4 p5 = some o_given) : Met l yX6_give vX6_give rmX6_give (va_Pc [.ref h, .int p0, .int p1, .int p2, .int p3, .int p4, .int p5] (mPk (dC, dI) vwCl (kW4 cI h a held p_ given) [(cI, .int)] sz)) (va_Qv (fun (_ : Unit) => True) (mPo (dC, dI) vwCl (kW4 cI h a held p_ o_given) [(cI, .int)] (va_A (kW4 cI h a held p_ given) sz)) (va_A (kW4 cI h a held p_ given) sz)) 0 0 (va_A (kW4 cI h a held p_ given) sz) := by
  refine Met.ofW (cc := cX6_give) (maxL := 7) (ret := none) (by decide) rfl ?_
  intro p e s m args below meth c s₁ B hml hv
  obtain ⟨rfl, hsz, hP, hK, hD0, hN⟩ := hv
  have hx := B.exec
  have hb := B.bytes
  have hr := B.returns
  have hts := atoms_spec (ws := vX6_give) B.pre
  have hlk : ∀ w ∈ lkX6_give, w.before _ s = true := fun w h => hts w (List.mem_cons_of_mem _ (List.mem_append_left _ h))
  have hown : s.vm.findClass RX6 = some m.cls := findClass_of_methodNamed B.named
  have hlocks := B.notSynchronized
  subst hsz
  have hD := hD0.self (sz := s.heap.size)
  generalize hAe : va_A (kW4 cI h a held p_ given) s.heap.size = A at hD ⊢
  have hA : ∀ q : Nat, s.heap.size ≤ q → A q := fun q h => by rw [← hAe]; exact Or.inr h
  have hS : va_S A s.heap s.heap [] := va_S.rf
  have hinX6 : ∀ w ∈ wsX60, w ∈ vX6_give := fun w h => List.mem_cons_of_mem _ (List.mem_append_right _ (List.mem_append_left _ h))
  have hf_30 := hlk (.fieldLink RX6 30 "KinForms" "given" "[I") (by decide +kernel)
  have hl := lv_entry ([.ref h, .int p0, .int p1, .int p2, .int p3, .int p4, .int p5] : List Value) (n := 7) (Nat.le_of_ble_eq_true rfl)
  rw [lg_entry_eq]
  generalize (lg_sl ([.ref h, .int p0, .int p1, .int p2, .int p3, .int p4, .int p5] : List Value) ++ List.replicate (7 - (lg_sl ([.ref h, .int p0, .int p1, .int p2, .int p3, .int p4, .int p5] : List Value)).length) Slot.unset).toArray = ls at hl ⊢
  have hl : lv_has ls 7 [(0, .ref h), (1, .int p0), (2, .int p1), (3, .int p2), (4, .int p3), (5, .int p4), (6, .int p5)] := hl
  unfold fX6_give at hF
  refine W_Q (fun Q hQ => ?_)
  have hP : va_P (dC, dI) vwCl (kW4 cI h a held p_ given) s.heap := hP
  refine W_HL (fun H locs eH eL => ?_)
  rw [← eH] at hP
  have hS : va_S A s.heap H locs := by rw [eH, eL]; exact hS
  refine lv_aload_n hx hb dX6_give_0 rfl (lv_at hl 0 rfl) ?_
  refine va_get (D := (dC, dI)) (ci := 4) (v := .ref (a 4)) (C := RX6) (T := TX6) (N := 8) hx hb hts hinX6 hown hK hP 0 rfl rfl 3 (by decide) hf_30 (fun _ h9 => h9) rfl dX6_give_1 ?_
  refine lv_iconst (v := 0) hx hb dX6_give_4 (by decide) ?_
  refine lv_iload_n hx hb dX6_give_5 rfl (lv_at hl 1 rfl) ?_
  obtain ⟨given_1, e_given_1, hF⟩ := nm_ex hF
  refine kc_iast (j := 0) (g := given_1) hx hb hK hP hD hS 1 0 rfl rfl (by decide) (by decide) dX6_give_6 e_given_1 (fun H locs hP hD hS => ?_)
  have hP : va_P (dC, dI) vwCl (kW4 cI h a held p_ given_1) H := hP
  have hD : va_D A (kW4 cI h a held p_ given_1) := hD
  refine lv_aload_n hx hb dX6_give_7 rfl (lv_at hl 0 rfl) ?_
  refine va_get (D := (dC, dI)) (ci := 4) (v := .ref (a 4)) (C := RX6) (T := TX6) (N := 8) hx hb hts hinX6 hown hK hP 0 rfl rfl 3 (by decide) hf_30 (fun _ h9 => h9) rfl dX6_give_8 ?_
  refine lv_iconst (v := 1) hx hb dX6_give_11 (by decide) ?_
  refine lv_iload_n hx hb dX6_give_12 rfl (lv_at hl 2 rfl) ?_
  obtain ⟨given_2, e_given_2, hF⟩ := nm_ex hF
  refine kc_iast (j := 1) (g := given_2) hx hb hK hP hD hS 1 0 rfl rfl (by decide) (by decide) dX6_give_13 e_given_2 (fun H locs hP hD hS => ?_)
  have hP : va_P (dC, dI) vwCl (kW4 cI h a held p_ given_2) H := hP
  have hD : va_D A (kW4 cI h a held p_ given_2) := hD
  refine lv_aload_n hx hb dX6_give_14 rfl (lv_at hl 0 rfl) ?_
  refine va_get (D := (dC, dI)) (ci := 4) (v := .ref (a 4)) (C := RX6) (T := TX6) (N := 8) hx hb hts hinX6 hown hK hP 0 rfl rfl 3 (by decide) hf_30 (fun _ h9 => h9) rfl dX6_give_15 ?_
  refine lv_iconst (v := 2) hx hb dX6_give_18 (by decide) ?_
  refine lv_iload_n hx hb dX6_give_19 rfl (lv_at hl 3 rfl) ?_
  obtain ⟨given_3, e_given_3, hF⟩ := nm_ex hF
  refine kc_iast (j := 2) (g := given_3) hx hb hK hP hD hS 1 0 rfl rfl (by decide) (by decide) dX6_give_20 e_given_3 (fun H locs hP hD hS => ?_)
  have hP : va_P (dC, dI) vwCl (kW4 cI h a held p_ given_3) H := hP
  have hD : va_D A (kW4 cI h a held p_ given_3) := hD
  refine lv_aload_n hx hb dX6_give_21 rfl (lv_at hl 0 rfl) ?_
  refine va_get (D := (dC, dI)) (ci := 4) (v := .ref (a 4)) (C := RX6) (T := TX6) (N := 8) hx hb hts hinX6 hown hK hP 0 rfl rfl 3 (by decide) hf_30 (fun _ h9 => h9) rfl dX6_give_22 ?_
  refine lv_iconst (v := 3) hx hb dX6_give_25 (by decide) ?_
  refine lv_iload hx hb dX6_give_26 (lv_at hl 4 rfl) ?_
  obtain ⟨given_4, e_given_4, hF⟩ := nm_ex hF
  refine kc_iast (j := 3) (g := given_4) hx hb hK hP hD hS 1 0 rfl rfl (by decide) (by decide) dX6_give_28 e_given_4 (fun H locs hP hD hS => ?_)
  have hP : va_P (dC, dI) vwCl (kW4 cI h a held p_ given_4) H := hP
  have hD : va_D A (kW4 cI h a held p_ given_4) := hD
  refine lv_aload_n hx hb dX6_give_29 rfl (lv_at hl 0 rfl) ?_
  refine va_get (D := (dC, dI)) (ci := 4) (v := .ref (a 4)) (C := RX6) (T := TX6) (N := 8) hx hb hts hinX6 hown hK hP 0 rfl rfl 3 (by decide) hf_30 (fun _ h9 => h9) rfl dX6_give_30 ?_
  refine lv_iconst (v := 4) hx hb dX6_give_33 (by decide) ?_
  refine lv_iload hx hb dX6_give_34 (lv_at hl 5 rfl) ?_
  obtain ⟨given_5, e_given_5, hF⟩ := nm_ex hF
  refine kc_iast (j := 4) (g := given_5) hx hb hK hP hD hS 1 0 rfl rfl (by decide) (by decide) dX6_give_36 e_given_5 (fun H locs hP hD hS => ?_)
  have hP : va_P (dC, dI) vwCl (kW4 cI h a held p_ given_5) H := hP
  have hD : va_D A (kW4 cI h a held p_ given_5) := hD
  refine lv_aload_n hx hb dX6_give_37 rfl (lv_at hl 0 rfl) ?_
  refine va_get (D := (dC, dI)) (ci := 4) (v := .ref (a 4)) (C := RX6) (T := TX6) (N := 8) hx hb hts hinX6 hown hK hP 0 rfl rfl 3 (by decide) hf_30 (fun _ h9 => h9) rfl dX6_give_38 ?_
  refine lv_iconst (v := 5) hx hb dX6_give_41 (by decide) ?_
  refine lv_iload hx hb dX6_give_42 (lv_at hl 6 rfl) ?_
  obtain ⟨given_6, e_given_6, hF⟩ := nm_ex hF
  refine kc_iast (j := 5) (g := given_6) hx hb hK hP hD hS 1 0 rfl rfl (by decide) (by decide) dX6_give_44 e_given_6 (fun H locs hP hD hS => ?_)
  have hP : va_P (dC, dI) vwCl (kW4 cI h a held p_ given_6) H := hP
  have hD : va_D A (kW4 cI h a held p_ given_6) := hD
  have q0 := sm1 hF
  have hP : va_P (dC, dI) vwCl (kW4 cI h a held p_ o_given) H := by rw [← q0]; exact hP
  have hD : va_D A (kW4 cI h a held p_ o_given) := by rw [← q0]; exact hD
  refine W_Qe hQ ?_
  exact W.vret hx hb hr (fun t ht hW => ⟨⟨(), rfl, trivial, by rw [ht]; exact hP, va_K.moved hW.alike hK, hD⟩, hS.F ht⟩) hS.2.2 dX6_give_45
def fX6_giveRow (givenRows : Nat → Int32) (p0 : Int32) (p1 : Int32) (p2 : Int32) (p3 : Int32) : Option ((Nat → Int32)) :=
  nm ((3 : Int32) * p0) (fun (v_1 : Int32) => if okI v_1 9 then nm (upd givenRows v_1.toNatClampNeg p1) (fun (givenRows_2 : Nat → Int32) => nm (((3 : Int32) * p0) + (1 : Int32)) (fun (v_3 : Int32) => if okI v_3 9 then nm (upd givenRows_2 v_3.toNatClampNeg p2) (fun (givenRows_4 : Nat → Int32) => nm (((3 : Int32) * p0) + (2 : Int32)) (fun (v_5 : Int32) => if okI v_5 9 then nm (upd givenRows_4 v_5.toNatClampNeg p3) (fun (givenRows_6 : Nat → Int32) => some givenRows_6) else none)) else none)) else none)
def lkX6_giveRow : List Cond := [.fieldLink RX6 34 "KinForms" "givenRows" "[I"]
def vX6_giveRow : List Cond := .code yX6_giveRow cX6_giveRow 5 none :: (lkX6_giveRow ++ (wsX60 ++ ([])))
theorem q_X6_giveRow : ∀ w ∈ vX6_giveRow, goodWord w = true := gd_cons rfl (gd_app (by decide +kernel) (gd_app q_wsX60 gd_nil))
abbrev rmX6_giveRow : Room := { frames := 0, cells := 0, slots := 0, locals := 0 }
set_option maxHeartbeats 4000000 in
set_option maxRecDepth 100000 in
theorem c_X6_giveRow (l : Launch) (dC : Nat → ClassId) (dI : Nat → Nat → Nat) (cI : ClassId) (h : Nat) (a : Nat → Nat) (sz : Nat) (held : Int32) (p_ : Int32) (givenRows : Nat → Int32) (p0 : Int32) (p1 : Int32) (p2 : Int32) (p3 : Int32) (o_givenRows : Nat → Int32) (hF : fX6_giveRow givenRows p0 p1 p2 p3 = some o_givenRows) : Met l yX6_giveRow vX6_giveRow rmX6_giveRow (va_Pc [.ref h, .int p0, .int p1, .int p2, .int p3] (mPk (dC, dI) vwCl (kW5 cI h a held p_ givenRows) [(cI, .int)] sz)) (va_Qv (fun (_ : Unit) => True) (mPo (dC, dI) vwCl (kW5 cI h a held p_ o_givenRows) [(cI, .int)] (va_A (kW5 cI h a held p_ givenRows) sz)) (va_A (kW5 cI h a held p_ givenRows) sz)) 0 0 (va_A (kW5 cI h a held p_ givenRows) sz) := by
  refine Met.ofW (cc := cX6_giveRow) (maxL := 5) (ret := none) (by decide) rfl ?_
  intro p e s m args below meth c s₁ B hml hv
  obtain ⟨rfl, hsz, hP, hK, hD0, hN⟩ := hv
  have hx := B.exec
  have hb := B.bytes
  have hr := B.returns
  have hts := atoms_spec (ws := vX6_giveRow) B.pre
  have hlk : ∀ w ∈ lkX6_giveRow, w.before _ s = true := fun w h => hts w (List.mem_cons_of_mem _ (List.mem_append_left _ h))
  have hown : s.vm.findClass RX6 = some m.cls := findClass_of_methodNamed B.named
  have hlocks := B.notSynchronized
  subst hsz
  have hD := hD0.self (sz := s.heap.size)
  generalize hAe : va_A (kW5 cI h a held p_ givenRows) s.heap.size = A at hD ⊢
  have hA : ∀ q : Nat, s.heap.size ≤ q → A q := fun q h => by rw [← hAe]; exact Or.inr h
  have hS : va_S A s.heap s.heap [] := va_S.rf
  have hinX6 : ∀ w ∈ wsX60, w ∈ vX6_giveRow := fun w h => List.mem_cons_of_mem _ (List.mem_append_right _ (List.mem_append_left _ h))
  have hf_34 := hlk (.fieldLink RX6 34 "KinForms" "givenRows" "[I") (by decide +kernel)
  have hl := lv_entry ([.ref h, .int p0, .int p1, .int p2, .int p3] : List Value) (n := 5) (Nat.le_of_ble_eq_true rfl)
  rw [lg_entry_eq]
  generalize (lg_sl ([.ref h, .int p0, .int p1, .int p2, .int p3] : List Value) ++ List.replicate (5 - (lg_sl ([.ref h, .int p0, .int p1, .int p2, .int p3] : List Value)).length) Slot.unset).toArray = ls at hl ⊢
  have hl : lv_has ls 5 [(0, .ref h), (1, .int p0), (2, .int p1), (3, .int p2), (4, .int p3)] := hl
  unfold fX6_giveRow at hF
  refine W_Q (fun Q hQ => ?_)
  have hP : va_P (dC, dI) vwCl (kW5 cI h a held p_ givenRows) s.heap := hP
  refine W_HL (fun H locs eH eL => ?_)
  rw [← eH] at hP
  have hS : va_S A s.heap H locs := by rw [eH, eL]; exact hS
  refine lv_aload_n hx hb dX6_giveRow_0 rfl (lv_at hl 0 rfl) ?_
  refine va_get (D := (dC, dI)) (ci := 4) (v := .ref (a 5)) (C := RX6) (T := TX6) (N := 8) hx hb hts hinX6 hown hK hP 0 rfl rfl 4 (by decide) hf_34 (fun _ h9 => h9) rfl dX6_giveRow_1 ?_
  refine lv_iconst (v := 3) hx hb dX6_giveRow_4 (by decide) ?_
  refine lv_iload_n hx hb dX6_giveRow_5 rfl (lv_at hl 1 rfl) ?_
  refine lv_imul hx hb dX6_giveRow_6 ?_
  refine lv_iload_n hx hb dX6_giveRow_7 rfl (lv_at hl 2 rfl) ?_
  obtain ⟨v_1, e_v_1, hF⟩ := nm_ex hF
  rw [← e_v_1]
  obtain ⟨hi, hF⟩ := ck_of hF
  obtain ⟨givenRows_2, e_givenRows_2, hF⟩ := nm_ex hF
  refine kc_iast (j := v_1.toNatClampNeg) (g := givenRows_2) hx hb hK hP hD hS 1 0 rfl rfl rfl hi dX6_giveRow_8 e_givenRows_2 (fun H locs hP hD hS => ?_)
  have hP : va_P (dC, dI) vwCl (kW5 cI h a held p_ givenRows_2) H := hP
  have hD : va_D A (kW5 cI h a held p_ givenRows_2) := hD
  refine lv_aload_n hx hb dX6_giveRow_9 rfl (lv_at hl 0 rfl) ?_
  refine va_get (D := (dC, dI)) (ci := 4) (v := .ref (a 5)) (C := RX6) (T := TX6) (N := 8) hx hb hts hinX6 hown hK hP 0 rfl rfl 4 (by decide) hf_34 (fun _ h9 => h9) rfl dX6_giveRow_10 ?_
  refine lv_iconst (v := 3) hx hb dX6_giveRow_13 (by decide) ?_
  refine lv_iload_n hx hb dX6_giveRow_14 rfl (lv_at hl 1 rfl) ?_
  refine lv_imul hx hb dX6_giveRow_15 ?_
  refine lv_iconst (v := 1) hx hb dX6_giveRow_16 (by decide) ?_
  refine lv_iadd hx hb dX6_giveRow_17 ?_
  refine lv_iload_n hx hb dX6_giveRow_18 rfl (lv_at hl 3 rfl) ?_
  obtain ⟨v_3, e_v_3, hF⟩ := nm_ex hF
  rw [← e_v_3]
  obtain ⟨hi, hF⟩ := ck_of hF
  obtain ⟨givenRows_4, e_givenRows_4, hF⟩ := nm_ex hF
  refine kc_iast (j := v_3.toNatClampNeg) (g := givenRows_4) hx hb hK hP hD hS 1 0 rfl rfl rfl hi dX6_giveRow_19 e_givenRows_4 (fun H locs hP hD hS => ?_)
  have hP : va_P (dC, dI) vwCl (kW5 cI h a held p_ givenRows_4) H := hP
  have hD : va_D A (kW5 cI h a held p_ givenRows_4) := hD
  refine lv_aload_n hx hb dX6_giveRow_20 rfl (lv_at hl 0 rfl) ?_
  refine va_get (D := (dC, dI)) (ci := 4) (v := .ref (a 5)) (C := RX6) (T := TX6) (N := 8) hx hb hts hinX6 hown hK hP 0 rfl rfl 4 (by decide) hf_34 (fun _ h9 => h9) rfl dX6_giveRow_21 ?_
  refine lv_iconst (v := 3) hx hb dX6_giveRow_24 (by decide) ?_
  refine lv_iload_n hx hb dX6_giveRow_25 rfl (lv_at hl 1 rfl) ?_
  refine lv_imul hx hb dX6_giveRow_26 ?_
  refine lv_iconst (v := 2) hx hb dX6_giveRow_27 (by decide) ?_
  refine lv_iadd hx hb dX6_giveRow_28 ?_
  refine lv_iload hx hb dX6_giveRow_29 (lv_at hl 4 rfl) ?_
  obtain ⟨v_5, e_v_5, hF⟩ := nm_ex hF
  rw [← e_v_5]
  obtain ⟨hi, hF⟩ := ck_of hF
  obtain ⟨givenRows_6, e_givenRows_6, hF⟩ := nm_ex hF
  refine kc_iast (j := v_5.toNatClampNeg) (g := givenRows_6) hx hb hK hP hD hS 1 0 rfl rfl rfl hi dX6_giveRow_31 e_givenRows_6 (fun H locs hP hD hS => ?_)
  have hP : va_P (dC, dI) vwCl (kW5 cI h a held p_ givenRows_6) H := hP
  have hD : va_D A (kW5 cI h a held p_ givenRows_6) := hD
  have q0 := sm1 hF
  have hP : va_P (dC, dI) vwCl (kW5 cI h a held p_ o_givenRows) H := by rw [← q0]; exact hP
  have hD : va_D A (kW5 cI h a held p_ o_givenRows) := by rw [← q0]; exact hD
  refine W_Qe hQ ?_
  exact W.vret hx hb hr (fun t ht hW => ⟨⟨(), rfl, trivial, by rw [ht]; exact hP, va_K.moved hW.alike hK, hD⟩, hS.F ht⟩) hS.2.2 dX6_giveRow_32
