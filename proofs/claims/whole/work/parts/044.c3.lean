def fX2_findOne (l_found : Int32) (l_p : Int32) (l_six : Nat → Int32) (l_all : Nat → Int32) (p0 : Int32) (p1 : Int32) (p2 : Int32) : Option ((Int32) × (Nat → Int32)) :=
  nm (fun (l_found_9 : Int32) (l_all_10 : Nat → Int32) => some (l_found_9, l_all_10)) (fun (k77 : (Int32) → (Nat → Int32) → Option ((Int32) × (Nat → Int32))) => if (8 : Int32) ≤ l_found then ((k77 l_found l_all)) else (bd1 (fX4_at l_six p0 p1 p2) (fun (r_1 : Int32) => if ¬ l_p = 0 then if (r_1 - r_1 / l_p * l_p) = 0 then (nm ((3 : Int32) * l_found) (fun (v_2 : Int32) => if okI v_2 24 then nm (upd l_all v_2.toNatClampNeg p0) (fun (l_all_3 : Nat → Int32) => nm (((3 : Int32) * l_found) + (1 : Int32)) (fun (v_4 : Int32) => if okI v_4 24 then nm (upd l_all_3 v_4.toNatClampNeg p1) (fun (l_all_5 : Nat → Int32) => nm (((3 : Int32) * l_found) + (2 : Int32)) (fun (v_6 : Int32) => if okI v_6 24 then nm (upd l_all_5 v_6.toNatClampNeg p2) (fun (l_all_7 : Nat → Int32) => nm (l_found + (1 : Int32)) (fun (l_found_8 : Int32) => (k77 l_found_8 l_all_7))) else none)) else none)) else none)) else ((k77 l_found l_all)) else none)))
def lkX2_findOne : List Cond := [.initialized RX4, .static yX4_at, .fieldLink RX2 35 "KinForms$Lines" "found" "I", .fieldLink RX2 7 "KinForms$Lines" "six" "[I", .fieldLink RX2 25 "KinForms$Lines" "p" "I", .fieldLink RX2 13 "KinForms$Lines" "all" "[I"]
def vX2_findOne : List Cond := .code yX2_findOne cX2_findOne 4 none :: (lkX2_findOne ++ (wsX20 ++ (vX4_at ++ ([]))))
theorem q_X2_findOne : ∀ w ∈ vX2_findOne, goodWord w = true := gd_cons rfl (gd_app (by decide +kernel) (gd_app q_wsX20 (gd_app q_X4_at gd_nil)))
theorem g_X2_findOne_X4_at : GoodIn vX2_findOne (vX4_at) := gi_of (fun w h => List.mem_cons_of_mem _ (List.mem_append_right _ (List.mem_append_right _ (List.mem_append_left _ h)))) q_X4_at
abbrev rmX2_findOne : Room := { frames := 1, cells := 0, slots := 0, locals := 23 }
set_option maxHeartbeats 4000000 in
set_option maxRecDepth 100000 in
theorem c_X2_findOne (l : Launch) (dC : Nat → ClassId) (dI : Nat → Nat → Nat) (cI : ClassId) (h : Nat) (a : Nat → Nat) (sz : Nat) (l_found : Int32) (l_p : Int32) (l_t : Int32) (l_u : Int32) (l_six : Nat → Int32) (l_all : Nat → Int32) (l_w : Nat → Int32) (l_basis : Nat → Int32) (l_crossed : Nat → Int32) (p0 : Int32) (p1 : Int32) (p2 : Int32) (o_l_found : Int32) (o_l_all : Nat → Int32) (hF : fX2_findOne l_found l_p l_six l_all p0 p1 p2 = some (o_l_found, o_l_all)) : Met l yX2_findOne vX2_findOne rmX2_findOne (va_Pc [.ref h, .int p0, .int p1, .int p2] (mPk (dC, dI) vwCl (lW cI h a l_found l_p l_t l_u l_six l_all l_w l_basis l_crossed) [(cI, .int)] sz)) (va_Qv (fun (_ : Unit) => True) (mPo (dC, dI) vwCl (lW cI h a o_l_found l_p l_t l_u l_six o_l_all l_w l_basis l_crossed) [(cI, .int)] (va_A (lW cI h a l_found l_p l_t l_u l_six l_all l_w l_basis l_crossed) sz)) (va_A (lW cI h a l_found l_p l_t l_u l_six l_all l_w l_basis l_crossed) sz)) 0 0 (va_A (lW cI h a l_found l_p l_t l_u l_six l_all l_w l_basis l_crossed) sz) := by
  refine Met.ofW (cc := cX2_findOne) (maxL := 4) (ret := none) (by decide) rfl ?_
  intro p e s m args below meth c s₁ B hml hv
  obtain ⟨rfl, hsz, hP, hK, hD0, hN⟩ := hv
  have hx := B.exec
  have hb := B.bytes
  have hr := B.returns
  have hts := atoms_spec (ws := vX2_findOne) B.pre
  have hlk : ∀ w ∈ lkX2_findOne, w.before _ s = true := fun w h => hts w (List.mem_cons_of_mem _ (List.mem_append_left _ h))
  have hown : s.vm.findClass RX2 = some m.cls := findClass_of_methodNamed B.named
  have hlocks := B.notSynchronized
  subst hsz
  have hD := hD0.self (sz := s.heap.size)
  generalize hAe : va_A (lW cI h a l_found l_p l_t l_u l_six l_all l_w l_basis l_crossed) s.heap.size = A at hD ⊢
  have hA : ∀ q : Nat, s.heap.size ≤ q → A q := fun q h => by rw [← hAe]; exact Or.inr h
  have hS : va_S A s.heap s.heap [] := va_S.rf
  have hinX2 : ∀ w ∈ wsX20, w ∈ vX2_findOne := fun w h => List.mem_cons_of_mem _ (List.mem_append_right _ (List.mem_append_left _ h))
  have hf_35 := hlk (.fieldLink RX2 35 "KinForms$Lines" "found" "I") (by decide +kernel)
  have hf_7 := hlk (.fieldLink RX2 7 "KinForms$Lines" "six" "[I") (by decide +kernel)
  have hf_25 := hlk (.fieldLink RX2 25 "KinForms$Lines" "p" "I") (by decide +kernel)
  have hf_13 := hlk (.fieldLink RX2 13 "KinForms$Lines" "all" "[I") (by decide +kernel)
  have hl := lv_entry ([.ref h, .int p0, .int p1, .int p2] : List Value) (n := 4) (Nat.le_of_ble_eq_true rfl)
  rw [lg_entry_eq]
  generalize (lg_sl ([.ref h, .int p0, .int p1, .int p2] : List Value) ++ List.replicate (4 - (lg_sl ([.ref h, .int p0, .int p1, .int p2] : List Value)).length) Slot.unset).toArray = ls at hl ⊢
  have hl : lv_has ls 4 [(0, .ref h), (1, .int p0), (2, .int p1), (3, .int p2)] := hl
  unfold fX2_findOne at hF
  refine W_Q (fun Q hQ => ?_)
  have hP : va_P (dC, dI) vwCl (lW cI h a l_found l_p l_t l_u l_six l_all l_w l_basis l_crossed) s.heap := hP
  refine W_HL (fun H locs eH eL => ?_)
  rw [← eH] at hP
  have hS : va_S A s.heap H locs := by rw [eH, eL]; exact hS
  refine lv_aload_n hx hb dX2_findOne_0 rfl (lv_at hl 0 rfl) ?_
  refine va_get (D := (dC, dI)) (ci := 2) (v := .int l_found) (C := RX2) (T := TX2) (N := 9) hx hb hts hinX2 hown hK hP 0 rfl rfl 5 (by decide) hf_35 (fun _ h9 => h9) rfl dX2_findOne_1 ?_
  refine lv_bipush (v := (8)) hx hb dX2_findOne_4 (by decide) ?_
  obtain ⟨k77, e_k77, hF⟩ := nm_ex hF
  have hk77 : ∀ (l_found_9 : Int32) (l_all_10 : Nat → Int32) (H : Heap) (locs : List Loc) (ls : Array Slot), va_P (dC, dI) vwCl (lW cI h a l_found_9 l_p l_t l_u l_six l_all_10 l_w l_basis l_crossed) H → va_D A (lW cI h a l_found_9 l_p l_t l_u l_six l_all_10 l_w l_basis l_crossed) → va_S A s.heap H locs → lv_has ls 4 [] → k77 l_found_9 l_all_10 = some (o_l_found, o_l_all) → W p l e rmX2_findOne s m ([.ref h, .int p0, .int p1, .int p2] : List Value).toArray below meth c H locs 0 0 Q (F0 m 77 ls []) := by
    intro l_found_9 l_all_10 H locs ls hP hD hS hl hF
    have hF := ka2 e_k77 hF
    obtain ⟨q0, q1⟩ := sm2 hF
    have hP : va_P (dC, dI) vwCl (lW cI h a o_l_found l_p l_t l_u l_six o_l_all l_w l_basis l_crossed) H := by rw [← q0, ← q1]; exact hP
    have hD : va_D A (lW cI h a o_l_found l_p l_t l_u l_six o_l_all l_w l_basis l_crossed) := by rw [← q0, ← q1]; exact hD
    refine W_Qe hQ ?_
    exact W.vret hx hb hr (fun t ht hW => ⟨⟨(), rfl, trivial, by rw [ht]; exact hP, va_K.moved hW.alike hK, hD⟩, hS.F ht⟩) hS.2.2 dX2_findOne_77
  clear e_k77
  refine lv_icmp_ge (tgt := 77) hx hb dX2_findOne_6 (by decide) (fun c0 => ?_) (fun c0 => ?_)
  · have hF := if_t hF c0
    exact hk77 l_found l_all H locs ls hP hD hS (lv_sub hl [] rfl) hF
  · have hF := if_f hF c0
    refine lv_aload_n hx hb dX2_findOne_9 rfl (lv_at hl 0 rfl) ?_
    refine va_get (D := (dC, dI)) (ci := 2) (v := .ref (a 1)) (C := RX2) (T := TX2) (N := 9) hx hb hts hinX2 hown hK hP 0 rfl rfl 0 (by decide) hf_7 (fun _ h9 => h9) rfl dX2_findOne_10 ?_
    refine lv_iload_n hx hb dX2_findOne_13 rfl (lv_at hl 1 rfl) ?_
    refine lv_iload_n hx hb dX2_findOne_14 rfl (lv_at hl 2 rfl) ?_
    refine lv_iload_n hx hb dX2_findOne_15 rfl (lv_at hl 3 rfl) ?_
    obtain ⟨r_1, hc, hF⟩ := bd1_of hF
    refine rc_i (va_runSN (As := [.ref (a 1), .int p0, .int p1, .int p2]) (rest := []) ⟨hx, hb, hml, hown, hts⟩ (c_X4_at l dC dI cI (a 1) l_six p0 p1 p2 r_1 hc) ⟨va_cnB 4 hts g_X2_findOne_X4_at rfl rfl rfl (hN.2 (RX2, 42, yX4_at, "KinForms") (by decide +kernel)) (hlk (.initialized RX4) (by decide +kernel)) (by decide +kernel) ⟨Nat.le_of_ble_eq_true rfl, Nat.le_of_ble_eq_true rfl⟩, hlk (.static yX4_at) (by decide +kernel), trivial⟩ ⟨rPk_blind, rPk_at hK (hP.sub (ws' := (sW1 cI (a 1) l_six)) [1] rfl) hN⟩ rfl rfl hl.1 rfl (lv_room (Nat.le_of_ble_eq_true rfl)) dX2_findOne_16 ⟨Nat.zero_le _, Nat.zero_le _⟩) ?_
    refine lv_aload_n hx hb dX2_findOne_19 rfl (lv_at hl 0 rfl) ?_
    refine va_get (D := (dC, dI)) (ci := 2) (v := .int l_p) (C := RX2) (T := TX2) (N := 9) hx hb hts hinX2 hown hK hP 0 rfl rfl 6 (by decide) hf_25 (fun _ h9 => h9) rfl dX2_findOne_20 ?_
    obtain ⟨hz, hF⟩ := ck_of hF
    refine lv_irem hx hb dX2_findOne_23 hz ?_
    refine lv_if_ne (tgt := 77) hx hb dX2_findOne_24 (by decide) (fun c0 => ?_) (fun c0 => ?_)
    · have hF := if_f hF c0
      exact hk77 l_found l_all H locs ls hP hD hS (lv_sub hl [] rfl) hF
    · have hF := if_t hF c0
      refine lv_aload_n hx hb dX2_findOne_27 rfl (lv_at hl 0 rfl) ?_
      refine va_get (D := (dC, dI)) (ci := 2) (v := .ref (a 2)) (C := RX2) (T := TX2) (N := 9) hx hb hts hinX2 hown hK hP 0 rfl rfl 1 (by decide) hf_13 (fun _ h9 => h9) rfl dX2_findOne_28 ?_
      refine lv_iconst (v := 3) hx hb dX2_findOne_31 (by decide) ?_
      refine lv_aload_n hx hb dX2_findOne_32 rfl (lv_at hl 0 rfl) ?_
      refine va_get (D := (dC, dI)) (ci := 2) (v := .int l_found) (C := RX2) (T := TX2) (N := 9) hx hb hts hinX2 hown hK hP 0 rfl rfl 5 (by decide) hf_35 (fun _ h9 => h9) rfl dX2_findOne_33 ?_
      refine lv_imul hx hb dX2_findOne_36 ?_
      refine lv_iload_n hx hb dX2_findOne_37 rfl (lv_at hl 1 rfl) ?_
      obtain ⟨v_2, e_v_2, hF⟩ := nm_ex hF
      rw [← e_v_2]
      obtain ⟨hi, hF⟩ := ck_of hF
      obtain ⟨l_all_3, e_l_all_3, hF⟩ := nm_ex hF
      refine kc_iast (j := v_2.toNatClampNeg) (g := l_all_3) hx hb hK hP hD hS 2 0 rfl rfl rfl hi dX2_findOne_38 e_l_all_3 (fun H locs hP hD hS => ?_)
      have hP : va_P (dC, dI) vwCl (lW cI h a l_found l_p l_t l_u l_six l_all_3 l_w l_basis l_crossed) H := hP
      have hD : va_D A (lW cI h a l_found l_p l_t l_u l_six l_all_3 l_w l_basis l_crossed) := hD
      refine lv_aload_n hx hb dX2_findOne_39 rfl (lv_at hl 0 rfl) ?_
      refine va_get (D := (dC, dI)) (ci := 2) (v := .ref (a 2)) (C := RX2) (T := TX2) (N := 9) hx hb hts hinX2 hown hK hP 0 rfl rfl 1 (by decide) hf_13 (fun _ h9 => h9) rfl dX2_findOne_40 ?_
      refine lv_iconst (v := 3) hx hb dX2_findOne_43 (by decide) ?_
      refine lv_aload_n hx hb dX2_findOne_44 rfl (lv_at hl 0 rfl) ?_
      refine va_get (D := (dC, dI)) (ci := 2) (v := .int l_found) (C := RX2) (T := TX2) (N := 9) hx hb hts hinX2 hown hK hP 0 rfl rfl 5 (by decide) hf_35 (fun _ h9 => h9) rfl dX2_findOne_45 ?_
      refine lv_imul hx hb dX2_findOne_48 ?_
      refine lv_iconst (v := 1) hx hb dX2_findOne_49 (by decide) ?_
      refine lv_iadd hx hb dX2_findOne_50 ?_
      refine lv_iload_n hx hb dX2_findOne_51 rfl (lv_at hl 2 rfl) ?_
      obtain ⟨v_4, e_v_4, hF⟩ := nm_ex hF
      rw [← e_v_4]
      obtain ⟨hi, hF⟩ := ck_of hF
      obtain ⟨l_all_5, e_l_all_5, hF⟩ := nm_ex hF
      refine kc_iast (j := v_4.toNatClampNeg) (g := l_all_5) hx hb hK hP hD hS 2 0 rfl rfl rfl hi dX2_findOne_52 e_l_all_5 (fun H locs hP hD hS => ?_)
      have hP : va_P (dC, dI) vwCl (lW cI h a l_found l_p l_t l_u l_six l_all_5 l_w l_basis l_crossed) H := hP
      have hD : va_D A (lW cI h a l_found l_p l_t l_u l_six l_all_5 l_w l_basis l_crossed) := hD
      refine lv_aload_n hx hb dX2_findOne_53 rfl (lv_at hl 0 rfl) ?_
      refine va_get (D := (dC, dI)) (ci := 2) (v := .ref (a 2)) (C := RX2) (T := TX2) (N := 9) hx hb hts hinX2 hown hK hP 0 rfl rfl 1 (by decide) hf_13 (fun _ h9 => h9) rfl dX2_findOne_54 ?_
      refine lv_iconst (v := 3) hx hb dX2_findOne_57 (by decide) ?_
      refine lv_aload_n hx hb dX2_findOne_58 rfl (lv_at hl 0 rfl) ?_
      refine va_get (D := (dC, dI)) (ci := 2) (v := .int l_found) (C := RX2) (T := TX2) (N := 9) hx hb hts hinX2 hown hK hP 0 rfl rfl 5 (by decide) hf_35 (fun _ h9 => h9) rfl dX2_findOne_59 ?_
      refine lv_imul hx hb dX2_findOne_62 ?_
      refine lv_iconst (v := 2) hx hb dX2_findOne_63 (by decide) ?_
      refine lv_iadd hx hb dX2_findOne_64 ?_
      refine lv_iload_n hx hb dX2_findOne_65 rfl (lv_at hl 3 rfl) ?_
      obtain ⟨v_6, e_v_6, hF⟩ := nm_ex hF
      rw [← e_v_6]
      obtain ⟨hi, hF⟩ := ck_of hF
      obtain ⟨l_all_7, e_l_all_7, hF⟩ := nm_ex hF
      refine kc_iast (j := v_6.toNatClampNeg) (g := l_all_7) hx hb hK hP hD hS 2 0 rfl rfl rfl hi dX2_findOne_66 e_l_all_7 (fun H locs hP hD hS => ?_)
      have hP : va_P (dC, dI) vwCl (lW cI h a l_found l_p l_t l_u l_six l_all_7 l_w l_basis l_crossed) H := hP
      have hD : va_D A (lW cI h a l_found l_p l_t l_u l_six l_all_7 l_w l_basis l_crossed) := hD
      refine lv_aload_n hx hb dX2_findOne_67 rfl (lv_at hl 0 rfl) ?_
      refine lv_dup hx hb dX2_findOne_68 rfl ?_
      refine va_get (D := (dC, dI)) (ci := 2) (v := .int l_found) (C := RX2) (T := TX2) (N := 9) hx hb hts hinX2 hown hK hP 0 rfl rfl 5 (by decide) hf_35 (fun _ h9 => h9) rfl dX2_findOne_69 ?_
      refine lv_iconst (v := 1) hx hb dX2_findOne_72 (by decide) ?_
      refine lv_iadd hx hb dX2_findOne_73 ?_
      refine lv_topi (fun l_found_8 e_l_found_8 => ?_)
      have hF := nm_at hF e_l_found_8
      refine va_put (D := (dC, dI)) (ci := 2) (v := .int l_found_8) (ty := .int) (C := RX2) (T := TX2) (N := 9) hx hb hts hinX2 tyX2 tyX2_ok nmX2 hown hK hP hD hS 0 rfl rfl 5 (by decide) hf_35 (fun _ h9 => h9) rfl (by decide +kernel) rfl rfl (Nat.le_of_ble_eq_true rfl) dX2_findOne_74 (fun H locs hP hD hS => ?_)
      have hP : va_P (dC, dI) vwCl (lW cI h a l_found_8 l_p l_t l_u l_six l_all_7 l_w l_basis l_crossed) H := hP
      have hD : va_D A (lW cI h a l_found_8 l_p l_t l_u l_six l_all_7 l_w l_basis l_crossed) := hD
      exact hk77 l_found_8 l_all_7 H locs ls hP hD hS (lv_sub hl [] rfl) hF
def fX2_find_L65 (p1 : Int32) (k88 : (Int32) → (Nat → Int32) → Option ((Int32) × (Int32) × (Nat → Int32) × (Nat → Int32))) (l_six_1 : Nat → Int32) (x3_12 : Int32) : Nat → (Int32) → (Int32) → (Nat → Int32) → Option ((Int32) × (Int32) × (Nat → Int32) × (Nat → Int32))
  | 0, _, _, _ => none
  | n + 1, x4_15, l_found_16, l_all_17 => if p1 ≤ x4_15 then ((k88 l_found_16 l_all_17)) else (bd2 (fX2_findOne l_found_16 p1 l_six_1 l_all_17 (1 : Int32) x3_12 x4_15) (fun (l_found_18 : Int32) (l_all_19 : Nat → Int32) => nm (x4_15 + (1 : Int32)) (fun (x4_20 : Int32) => (fX2_find_L65 p1 k88 l_six_1 x3_12 n x4_20 l_found_18 l_all_19))))
def fX2_find_L54 (p1 : Int32) (l_six_1 : Nat → Int32) (fu : Nat) : Nat → (Int32) → (Int32) → (Nat → Int32) → Option ((Int32) × (Int32) × (Nat → Int32) × (Nat → Int32))
  | 0, _, _, _ => none
  | n + 1, x3_12, l_found_13, l_all_14 => if p1 ≤ x3_12 then (some (l_found_13, p1, l_six_1, l_all_14)) else (nm (fun (l_found_21 : Int32) (l_all_22 : Nat → Int32) => nm (x3_12 + (1 : Int32)) (fun (x3_23 : Int32) => (fX2_find_L54 p1 l_six_1 fu n x3_23 l_found_21 l_all_22))) (fun (k88 : (Int32) → (Nat → Int32) → Option ((Int32) × (Int32) × (Nat → Int32) × (Nat → Int32))) => (fX2_find_L65 p1 k88 l_six_1 x3_12 fu (0 : Int32) l_found_13 l_all_14)))
def fX2_find_L31 (p1 : Int32) (k52 : (Int32) → (Nat → Int32) → Option ((Int32) × (Int32) × (Nat → Int32) × (Nat → Int32))) (l_six_1 : Nat → Int32) : Nat → (Int32) → (Int32) → (Nat → Int32) → Option ((Int32) × (Int32) × (Nat → Int32) × (Nat → Int32))
  | 0, _, _, _ => none
  | n + 1, x3_4, l_found_5, l_all_6 => if p1 ≤ x3_4 then ((k52 l_found_5 l_all_6)) else (bd2 (fX2_findOne l_found_5 p1 l_six_1 l_all_6 (0 : Int32) (1 : Int32) x3_4) (fun (l_found_7 : Int32) (l_all_8 : Nat → Int32) => nm (x3_4 + (1 : Int32)) (fun (x3_9 : Int32) => (fX2_find_L31 p1 k52 l_six_1 n x3_9 l_found_7 l_all_8))))
def fX2_find (fu : Nat) (l_six : Nat → Int32) (l_all : Nat → Int32) (numbers : Nat → Int32) (p1 : Int32) : Option ((Int32) × (Int32) × (Nat → Int32) × (Nat → Int32)) :=
  nm (va_cpy numbers l_six 0 0 6) (fun (l_six_1 : Nat → Int32) => bd2 (fX2_findOne (0 : Int32) p1 l_six_1 l_all (0 : Int32) (0 : Int32) (1 : Int32)) (fun (l_found_2 : Int32) (l_all_3 : Nat → Int32) => nm (fun (l_found_10 : Int32) (l_all_11 : Nat → Int32) => (fX2_find_L54 p1 l_six_1 fu fu (0 : Int32) l_found_10 l_all_11)) (fun (k52 : (Int32) → (Nat → Int32) → Option ((Int32) × (Int32) × (Nat → Int32) × (Nat → Int32))) => (fX2_find_L31 p1 k52 l_six_1 fu (0 : Int32) l_found_2 l_all_3))))
def lkX2_find : List Cond := [.methodLink RX2 29 arraycopyName, .native arraycopyName, .static arraycopyName, .initialized "java/lang/System", .fieldLink RX2 7 "KinForms$Lines" "six" "[I", .fieldLink RX2 25 "KinForms$Lines" "p" "I", .fieldLink RX2 35 "KinForms$Lines" "found" "I"]
def vX2_find : List Cond := .code yX2_find cX2_find 5 none :: (lkX2_find ++ (wsX20 ++ (wsV RX2 38 RX2 yX2_findOne vX2_findOne ++ ([]))))
theorem q_X2_find : ∀ w ∈ vX2_find, goodWord w = true := gd_cons rfl (gd_app (by decide +kernel) (gd_app q_wsX20 (gd_app (gd_V q_X2_findOne) gd_nil)))
theorem g_X2_find_X2_findOne : GoodIn vX2_find (wsV RX2 38 RX2 yX2_findOne vX2_findOne) := gi_of (fun w h => List.mem_cons_of_mem _ (List.mem_append_right _ (List.mem_append_right _ (List.mem_append_left _ h)))) (gd_V q_X2_findOne)
abbrev rmX2_find : Room := { frames := 2, cells := 0, slots := 0, locals := 46 }
set_option maxHeartbeats 4000000 in
set_option maxRecDepth 100000 in
theorem c_X2_find (l : Launch) (dC : Nat → ClassId) (dI : Nat → Nat → Nat) (cI : ClassId) (h : Nat) (a : Nat → Nat) (b : Nat) (fu : Nat) (sz : Nat) (l_found : Int32) (l_p : Int32) (l_t : Int32) (l_u : Int32) (l_six : Nat → Int32) (l_all : Nat → Int32) (l_w : Nat → Int32) (l_basis : Nat → Int32) (l_crossed : Nat → Int32) (numbers : Nat → Int32) (p1 : Int32) (o_l_found : Int32) (o_l_p : Int32) (o_l_six : Nat → Int32) (o_l_all : Nat → Int32) (hF : fX2_find fu l_six l_all numbers p1 = some (o_l_found, o_l_p, o_l_six, o_l_all)) : Met l yX2_find vX2_find rmX2_find (va_Pc [.ref h, .ref b, .int p1] (mPk (dC, dI) vwCl (lnW cI h a b l_found l_p l_t l_u l_six l_all l_w l_basis l_crossed numbers) [(cI, .int)] sz)) (va_Qv (fun (_ : Unit) => True) (mPo (dC, dI) vwCl (lnW cI h a b o_l_found o_l_p l_t l_u o_l_six o_l_all l_w l_basis l_crossed numbers) [(cI, .int)] (va_A (lnW cI h a b l_found l_p l_t l_u l_six l_all l_w l_basis l_crossed numbers) sz)) (va_A (lnW cI h a b l_found l_p l_t l_u l_six l_all l_w l_basis l_crossed numbers) sz)) 0 0 (va_A (lnW cI h a b l_found l_p l_t l_u l_six l_all l_w l_basis l_crossed numbers) sz) := by
  refine Met.ofW (cc := cX2_find) (maxL := 5) (ret := none) (by decide) rfl ?_
  intro p e s m args below meth c s₁ B hml hv
  obtain ⟨rfl, hsz, hP, hK, hD0, hN⟩ := hv
  have hx := B.exec
  have hb := B.bytes
  have hr := B.returns
  have hts := atoms_spec (ws := vX2_find) B.pre
  have hlk : ∀ w ∈ lkX2_find, w.before _ s = true := fun w h => hts w (List.mem_cons_of_mem _ (List.mem_append_left _ h))
  have hown : s.vm.findClass RX2 = some m.cls := findClass_of_methodNamed B.named
  have hlocks := B.notSynchronized
  subst hsz
  have hD := hD0.self (sz := s.heap.size)
  generalize hAe : va_A (lnW cI h a b l_found l_p l_t l_u l_six l_all l_w l_basis l_crossed numbers) s.heap.size = A at hD ⊢
  have hA : ∀ q : Nat, s.heap.size ≤ q → A q := fun q h => by rw [← hAe]; exact Or.inr h
  have hS : va_S A s.heap s.heap [] := va_S.rf
  have hinX2 : ∀ w ∈ wsX20, w ∈ vX2_find := fun w h => List.mem_cons_of_mem _ (List.mem_append_right _ (List.mem_append_left _ h))
  have hf_7 := hlk (.fieldLink RX2 7 "KinForms$Lines" "six" "[I") (by decide +kernel)
  have hf_25 := hlk (.fieldLink RX2 25 "KinForms$Lines" "p" "I") (by decide +kernel)
  have hf_35 := hlk (.fieldLink RX2 35 "KinForms$Lines" "found" "I") (by decide +kernel)
  have hl := lv_entry ([.ref h, .ref b, .int p1] : List Value) (n := 5) (Nat.le_of_ble_eq_true rfl)
  rw [lg_entry_eq]
  generalize (lg_sl ([.ref h, .ref b, .int p1] : List Value) ++ List.replicate (5 - (lg_sl ([.ref h, .ref b, .int p1] : List Value)).length) Slot.unset).toArray = ls at hl ⊢
  have hl : lv_has ls 5 [(0, .ref h), (1, .ref b), (2, .int p1)] := hl
  unfold fX2_find at hF
  refine W_Q (fun Q hQ => ?_)
  have hP : va_P (dC, dI) vwCl (lnW cI h a b l_found l_p l_t l_u l_six l_all l_w l_basis l_crossed numbers) s.heap := hP
  refine W_HL (fun H locs eH eL => ?_)
  rw [← eH] at hP
  have hS : va_S A s.heap H locs := by rw [eH, eL]; exact hS
  refine lv_aload_n hx hb dX2_find_0 rfl (lv_at hl 1 rfl) ?_
  refine lv_iconst (v := 0) hx hb dX2_find_1 (by decide) ?_
  refine lv_aload_n hx hb dX2_find_2 rfl (lv_at hl 0 rfl) ?_
  refine va_get (D := (dC, dI)) (ci := 2) (v := .ref (a 1)) (C := RX2) (T := TX2) (N := 9) hx hb hts hinX2 hown hK hP 0 rfl rfl 0 (by decide) hf_7 (fun _ h9 => h9) rfl dX2_find_3 ?_
  refine lv_iconst (v := 0) hx hb dX2_find_6 (by decide) ?_
  refine lv_bipush (v := (6)) hx hb dX2_find_7 (by decide) ?_
  obtain ⟨l_six_1, e_l_six_1, hF⟩ := nm_ex hF
  refine kc_copy (N := 6) (SP := 0) (DP := 0) (g1 := l_six_1) hx hb (hml.trans hl.1.symm) hown (hlk (.methodLink RX2 29 arraycopyName) (by decide +kernel)) (hlk (.native arraycopyName) (by decide +kernel)) (hlk (.static arraycopyName) (by decide +kernel)) (hlk (.initialized "java/lang/System") (by decide +kernel)) hK hP hD hS 6 1 0 0 rfl rfl rfl rfl (by decide) (by decide) (by decide) (by decide) (by decide) (by decide) (by decide) (by decide) (Nat.le_of_ble_eq_true rfl) (Nat.le_of_ble_eq_true rfl) dX2_find_9 e_l_six_1 (fun H locs hP hD hS => ?_)
  have hP : va_P (dC, dI) vwCl (lnW cI h a b l_found l_p l_t l_u l_six_1 l_all l_w l_basis l_crossed numbers) H := hP
  have hD : va_D A (lnW cI h a b l_found l_p l_t l_u l_six_1 l_all l_w l_basis l_crossed numbers) := hD
  refine lv_aload_n hx hb dX2_find_12 rfl (lv_at hl 0 rfl) ?_
  refine lv_iload_n hx hb dX2_find_13 rfl (lv_at hl 2 rfl) ?_
  refine va_put (D := (dC, dI)) (ci := 2) (v := .int p1) (ty := .int) (C := RX2) (T := TX2) (N := 9) hx hb hts hinX2 tyX2 tyX2_ok nmX2 hown hK hP hD hS 0 rfl rfl 6 (by decide) hf_25 (fun _ h9 => h9) rfl (by decide +kernel) rfl rfl (Nat.le_of_ble_eq_true rfl) dX2_find_14 (fun H locs hP hD hS => ?_)
  have hP : va_P (dC, dI) vwCl (lnW cI h a b l_found p1 l_t l_u l_six_1 l_all l_w l_basis l_crossed numbers) H := hP
  have hD : va_D A (lnW cI h a b l_found p1 l_t l_u l_six_1 l_all l_w l_basis l_crossed numbers) := hD
  refine lv_aload_n hx hb dX2_find_17 rfl (lv_at hl 0 rfl) ?_
  refine lv_iconst (v := 0) hx hb dX2_find_18 (by decide) ?_
  refine va_put (D := (dC, dI)) (ci := 2) (v := .int (0 : Int32)) (ty := .int) (C := RX2) (T := TX2) (N := 9) hx hb hts hinX2 tyX2 tyX2_ok nmX2 hown hK hP hD hS 0 rfl rfl 5 (by decide) hf_35 (fun _ h9 => h9) rfl (by decide +kernel) rfl rfl (Nat.le_of_ble_eq_true rfl) dX2_find_19 (fun H locs hP hD hS => ?_)
  have hP : va_P (dC, dI) vwCl (lnW cI h a b (0 : Int32) p1 l_t l_u l_six_1 l_all l_w l_basis l_crossed numbers) H := hP
  have hD : va_D A (lnW cI h a b (0 : Int32) p1 l_t l_u l_six_1 l_all l_w l_basis l_crossed numbers) := hD
  refine lv_aload_n hx hb dX2_find_22 rfl (lv_at hl 0 rfl) ?_
  refine lv_iconst (v := 0) hx hb dX2_find_23 (by decide) ?_
  refine lv_iconst (v := 0) hx hb dX2_find_24 (by decide) ?_
  refine lv_iconst (v := 1) hx hb dX2_find_25 (by decide) ?_
  obtain ⟨l_found_2, l_all_3, hc, hF⟩ := bd2_of hF
  refine sc_v (wf := (lnW cI h a b l_found_2 p1 l_t l_u l_six_1 l_all_3 l_w l_basis l_crossed numbers)) (va_runV (As := [.int (0 : Int32), .int (0 : Int32), .int (1 : Int32)]) (rest := []) ⟨hx, hb, hml, hown, hts⟩ (c_X2_findOne l dC dI cI h a H.size (0 : Int32) p1 l_t l_u l_six_1 l_all l_w l_basis l_crossed (0 : Int32) (0 : Int32) (1 : Int32) l_found_2 l_all_3 hc) (cwV 3 hts g_X2_find_X2_findOne rfl rfl rfl (by decide +kernel) ⟨Nat.le_of_ble_eq_true rfl, Nat.le_of_ble_eq_true rfl⟩) ⟨mPk_blind, va_recv hK hP (ci := 2) (q0 := 0) rfl rfl, mPk_at hK (hP.sub (ws' := (lW cI h a (0 : Int32) p1 l_t l_u l_six_1 l_all l_w l_basis l_crossed)) [0, 1, 2, 3, 4, 5] rfl) (hD.sub (ws' := (lW cI h a (0 : Int32) p1 l_t l_u l_six_1 l_all l_w l_basis l_crossed)) [0, 1, 2, 3, 4, 5] (by decide) rfl) hN⟩ rfl rfl hl.1 rfl (lv_room (Nat.le_of_ble_eq_true rfl)) dX2_find_26 ⟨Nat.zero_le _, Nat.zero_le _⟩) hP hD hS hA [0, 1, 2, 3, 4, 5] [6] rfl rfl rfl rfl rfl (by decide) (fun H locs hP hD hS => ?_)
  refine lv_iconst (v := 0) hx hb dX2_find_29 (by decide) ?_
  refine lv_istore_n (lv' := [(3, .int (0 : Int32)), (0, .ref h), (1, .ref b), (2, .int p1)]) hx hb dX2_find_30 rfl hl (by decide) rfl (fun ls hl => ?_)
  obtain ⟨k52, e_k52, hF⟩ := nm_ex hF
  have hk52 : ∀ (l_found_10 : Int32) (l_all_11 : Nat → Int32) (H : Heap) (locs : List Loc) (ls : Array Slot), va_P (dC, dI) vwCl (lnW cI h a b l_found_10 p1 l_t l_u l_six_1 l_all_11 l_w l_basis l_crossed numbers) H → va_D A (lnW cI h a b l_found_10 p1 l_t l_u l_six_1 l_all_11 l_w l_basis l_crossed numbers) → va_S A s.heap H locs → lv_has ls 5 [(0, .ref h)] → k52 l_found_10 l_all_11 = some (o_l_found, o_l_p, o_l_six, o_l_all) → W p l e rmX2_find s m ([.ref h, .ref b, .int p1] : List Value).toArray below meth c H locs 0 0 Q (F0 m 52 ls []) := by
    intro l_found_10 l_all_11 H locs ls hP hD hS hl hF
    have hF := ka2 e_k52 hF
    refine lv_iconst (v := 0) hx hb dX2_find_52 (by decide) ?_
    refine lv_istore_n (lv' := [(3, .int (0 : Int32)), (0, .ref h)]) hx hb dX2_find_53 rfl hl (by decide) rfl (fun ls hl => ?_)
    have hL54 : ∀ n : Nat, ∀ (x3_12 : Int32) (l_found_13 : Int32) (l_all_14 : Nat → Int32) (H : Heap) (locs : List Loc) (ls : Array Slot), va_P (dC, dI) vwCl (lnW cI h a b l_found_13 p1 l_t l_u l_six_1 l_all_14 l_w l_basis l_crossed numbers) H → va_D A (lnW cI h a b l_found_13 p1 l_t l_u l_six_1 l_all_14 l_w l_basis l_crossed numbers) → va_S A s.heap H locs → lv_has ls 5 [(0, .ref h), (3, .int x3_12)] → fX2_find_L54 p1 l_six_1 fu n x3_12 l_found_13 l_all_14 = some (o_l_found, o_l_p, o_l_six, o_l_all) → W p l e rmX2_find s m ([.ref h, .ref b, .int p1] : List Value).toArray below meth c H locs 0 0 Q (F0 m 54 ls []) := by
      intro n
      induction n with
      | zero => intro x3_12 l_found_13 l_all_14 H locs ls hP hD hS hl hF; rw [fX2_find_L54] at hF; cases hF
      | succ n ih54 =>
        intro x3_12 l_found_13 l_all_14 H locs ls hP hD hS hl hF
        rw [fX2_find_L54] at hF
        refine lv_iload_n hx hb dX2_find_54 rfl (lv_at hl 1 rfl) ?_
        refine lv_aload_n hx hb dX2_find_55 rfl (lv_at hl 0 rfl) ?_
        refine va_get (D := (dC, dI)) (ci := 2) (v := .int p1) (C := RX2) (T := TX2) (N := 9) hx hb hts hinX2 hown hK hP 0 rfl rfl 6 (by decide) hf_25 (fun _ h9 => h9) rfl dX2_find_56 ?_
        refine lv_icmp_ge (tgt := 94) hx hb dX2_find_59 (by decide) (fun c0 => ?_) (fun c0 => ?_)
        · have hF := if_t hF c0
          obtain ⟨q0, q1, q2, q3⟩ := sm4 hF
          have hP : va_P (dC, dI) vwCl (lnW cI h a b o_l_found o_l_p l_t l_u o_l_six o_l_all l_w l_basis l_crossed numbers) H := by rw [← q0, ← q1, ← q2, ← q3]; exact hP
          have hD : va_D A (lnW cI h a b o_l_found o_l_p l_t l_u o_l_six o_l_all l_w l_basis l_crossed numbers) := by rw [← q0, ← q1, ← q2, ← q3]; exact hD
          refine W_Qe hQ ?_
          exact W.vret hx hb hr (fun t ht hW => ⟨⟨(), rfl, trivial, by rw [ht]; exact hP, va_K.moved hW.alike hK, hD⟩, hS.F ht⟩) hS.2.2 dX2_find_94
        · have hF := if_f hF c0
          refine lv_iconst (v := 0) hx hb dX2_find_62 (by decide) ?_
          refine lv_istore (lv' := [(4, .int (0 : Int32)), (0, .ref h), (3, .int x3_12)]) hx hb dX2_find_63 hl (by decide) rfl (fun ls hl => ?_)
          obtain ⟨k88, e_k88, hF⟩ := nm_ex hF
          have hk88 : ∀ (l_found_21 : Int32) (l_all_22 : Nat → Int32) (H : Heap) (locs : List Loc) (ls : Array Slot), va_P (dC, dI) vwCl (lnW cI h a b l_found_21 p1 l_t l_u l_six_1 l_all_22 l_w l_basis l_crossed numbers) H → va_D A (lnW cI h a b l_found_21 p1 l_t l_u l_six_1 l_all_22 l_w l_basis l_crossed numbers) → va_S A s.heap H locs → lv_has ls 5 [(0, .ref h), (3, .int x3_12)] → k88 l_found_21 l_all_22 = some (o_l_found, o_l_p, o_l_six, o_l_all) → W p l e rmX2_find s m ([.ref h, .ref b, .int p1] : List Value).toArray below meth c H locs 0 0 Q (F0 m 88 ls []) := by
            intro l_found_21 l_all_22 H locs ls hP hD hS hl hF
            have hF := ka2 e_k88 hF
            obtain ⟨x3_23, e_x3_23, hF⟩ := nm_ex hF
            refine lv_iinc (v := x3_23) (lv' := [(3, .int x3_23), (0, .ref h)]) hx hb dX2_find_88 hl (k := 1) rfl (by rw [e_x3_23]; rfl) (by decide) rfl (fun ls hl => ?_)
            refine lv_goto (tgt := 54) hx hb dX2_find_91 (by decide) ?_
            exact ih54 x3_23 l_found_21 l_all_22 H locs ls hP hD hS (lv_sub hl [1, 0] rfl) hF
          clear e_k88
          have hL65 : ∀ n : Nat, ∀ (x4_15 : Int32) (l_found_16 : Int32) (l_all_17 : Nat → Int32) (H : Heap) (locs : List Loc) (ls : Array Slot), va_P (dC, dI) vwCl (lnW cI h a b l_found_16 p1 l_t l_u l_six_1 l_all_17 l_w l_basis l_crossed numbers) H → va_D A (lnW cI h a b l_found_16 p1 l_t l_u l_six_1 l_all_17 l_w l_basis l_crossed numbers) → va_S A s.heap H locs → lv_has ls 5 [(0, .ref h), (3, .int x3_12), (4, .int x4_15)] → fX2_find_L65 p1 k88 l_six_1 x3_12 n x4_15 l_found_16 l_all_17 = some (o_l_found, o_l_p, o_l_six, o_l_all) → W p l e rmX2_find s m ([.ref h, .ref b, .int p1] : List Value).toArray below meth c H locs 0 0 Q (F0 m 65 ls []) := by
            intro n
            induction n with
            | zero => intro x4_15 l_found_16 l_all_17 H locs ls hP hD hS hl hF; rw [fX2_find_L65] at hF; cases hF
            | succ n ih65 =>
              intro x4_15 l_found_16 l_all_17 H locs ls hP hD hS hl hF
              rw [fX2_find_L65] at hF
              refine lv_iload hx hb dX2_find_65 (lv_at hl 2 rfl) ?_
              refine lv_aload_n hx hb dX2_find_67 rfl (lv_at hl 0 rfl) ?_
              refine va_get (D := (dC, dI)) (ci := 2) (v := .int p1) (C := RX2) (T := TX2) (N := 9) hx hb hts hinX2 hown hK hP 0 rfl rfl 6 (by decide) hf_25 (fun _ h9 => h9) rfl dX2_find_68 ?_
              refine lv_icmp_ge (tgt := 88) hx hb dX2_find_71 (by decide) (fun c0 => ?_) (fun c0 => ?_)
              · have hF := if_t hF c0
                exact hk88 l_found_16 l_all_17 H locs ls hP hD hS (lv_sub hl [0, 1] rfl) hF
              · have hF := if_f hF c0
                refine lv_aload_n hx hb dX2_find_74 rfl (lv_at hl 0 rfl) ?_
                refine lv_iconst (v := 1) hx hb dX2_find_75 (by decide) ?_
                refine lv_iload_n hx hb dX2_find_76 rfl (lv_at hl 1 rfl) ?_
                refine lv_iload hx hb dX2_find_77 (lv_at hl 2 rfl) ?_
                obtain ⟨l_found_18, l_all_19, hc, hF⟩ := bd2_of hF
                refine sc_v (wf := (lnW cI h a b l_found_18 p1 l_t l_u l_six_1 l_all_19 l_w l_basis l_crossed numbers)) (va_runV (As := [.int (1 : Int32), .int x3_12, .int x4_15]) (rest := []) ⟨hx, hb, hml, hown, hts⟩ (c_X2_findOne l dC dI cI h a H.size l_found_16 p1 l_t l_u l_six_1 l_all_17 l_w l_basis l_crossed (1 : Int32) x3_12 x4_15 l_found_18 l_all_19 hc) (cwV 3 hts g_X2_find_X2_findOne rfl rfl rfl (by decide +kernel) ⟨Nat.le_of_ble_eq_true rfl, Nat.le_of_ble_eq_true rfl⟩) ⟨mPk_blind, va_recv hK hP (ci := 2) (q0 := 0) rfl rfl, mPk_at hK (hP.sub (ws' := (lW cI h a l_found_16 p1 l_t l_u l_six_1 l_all_17 l_w l_basis l_crossed)) [0, 1, 2, 3, 4, 5] rfl) (hD.sub (ws' := (lW cI h a l_found_16 p1 l_t l_u l_six_1 l_all_17 l_w l_basis l_crossed)) [0, 1, 2, 3, 4, 5] (by decide) rfl) hN⟩ rfl rfl hl.1 rfl (lv_room (Nat.le_of_ble_eq_true rfl)) dX2_find_79 ⟨Nat.zero_le _, Nat.zero_le _⟩) hP hD hS hA [0, 1, 2, 3, 4, 5] [6] rfl rfl rfl rfl rfl (by decide) (fun H locs hP hD hS => ?_)
                obtain ⟨x4_20, e_x4_20, hF⟩ := nm_ex hF
                refine lv_iinc (v := x4_20) (lv' := [(4, .int x4_20), (0, .ref h), (3, .int x3_12)]) hx hb dX2_find_82 hl (k := 2) rfl (by rw [e_x4_20]; rfl) (by decide) rfl (fun ls hl => ?_)
                refine lv_goto (tgt := 65) hx hb dX2_find_85 (by decide) ?_
                exact ih65 x4_20 l_found_18 l_all_19 H locs ls hP hD hS (lv_sub hl [1, 2, 0] rfl) hF
          exact hL65 fu (0 : Int32) l_found_13 l_all_14 H locs ls hP hD hS (lv_sub hl [1, 2, 0] rfl) hF
    exact hL54 fu (0 : Int32) l_found_10 l_all_11 H locs ls hP hD hS (lv_sub hl [1, 0] rfl) hF
  clear e_k52
  have hL31 : ∀ n : Nat, ∀ (x3_4 : Int32) (l_found_5 : Int32) (l_all_6 : Nat → Int32) (H : Heap) (locs : List Loc) (ls : Array Slot), va_P (dC, dI) vwCl (lnW cI h a b l_found_5 p1 l_t l_u l_six_1 l_all_6 l_w l_basis l_crossed numbers) H → va_D A (lnW cI h a b l_found_5 p1 l_t l_u l_six_1 l_all_6 l_w l_basis l_crossed numbers) → va_S A s.heap H locs → lv_has ls 5 [(0, .ref h), (3, .int x3_4)] → fX2_find_L31 p1 k52 l_six_1 n x3_4 l_found_5 l_all_6 = some (o_l_found, o_l_p, o_l_six, o_l_all) → W p l e rmX2_find s m ([.ref h, .ref b, .int p1] : List Value).toArray below meth c H locs 0 0 Q (F0 m 31 ls []) := by
    intro n
    induction n with
    | zero => intro x3_4 l_found_5 l_all_6 H locs ls hP hD hS hl hF; rw [fX2_find_L31] at hF; cases hF
    | succ n ih31 =>
      intro x3_4 l_found_5 l_all_6 H locs ls hP hD hS hl hF
      rw [fX2_find_L31] at hF
      refine lv_iload_n hx hb dX2_find_31 rfl (lv_at hl 1 rfl) ?_
      refine lv_aload_n hx hb dX2_find_32 rfl (lv_at hl 0 rfl) ?_
      refine va_get (D := (dC, dI)) (ci := 2) (v := .int p1) (C := RX2) (T := TX2) (N := 9) hx hb hts hinX2 hown hK hP 0 rfl rfl 6 (by decide) hf_25 (fun _ h9 => h9) rfl dX2_find_33 ?_
      refine lv_icmp_ge (tgt := 52) hx hb dX2_find_36 (by decide) (fun c0 => ?_) (fun c0 => ?_)
      · have hF := if_t hF c0
        exact hk52 l_found_5 l_all_6 H locs ls hP hD hS (lv_sub hl [0] rfl) hF
      · have hF := if_f hF c0
        refine lv_aload_n hx hb dX2_find_39 rfl (lv_at hl 0 rfl) ?_
        refine lv_iconst (v := 0) hx hb dX2_find_40 (by decide) ?_
        refine lv_iconst (v := 1) hx hb dX2_find_41 (by decide) ?_
        refine lv_iload_n hx hb dX2_find_42 rfl (lv_at hl 1 rfl) ?_
        obtain ⟨l_found_7, l_all_8, hc, hF⟩ := bd2_of hF
        refine sc_v (wf := (lnW cI h a b l_found_7 p1 l_t l_u l_six_1 l_all_8 l_w l_basis l_crossed numbers)) (va_runV (As := [.int (0 : Int32), .int (1 : Int32), .int x3_4]) (rest := []) ⟨hx, hb, hml, hown, hts⟩ (c_X2_findOne l dC dI cI h a H.size l_found_5 p1 l_t l_u l_six_1 l_all_6 l_w l_basis l_crossed (0 : Int32) (1 : Int32) x3_4 l_found_7 l_all_8 hc) (cwV 3 hts g_X2_find_X2_findOne rfl rfl rfl (by decide +kernel) ⟨Nat.le_of_ble_eq_true rfl, Nat.le_of_ble_eq_true rfl⟩) ⟨mPk_blind, va_recv hK hP (ci := 2) (q0 := 0) rfl rfl, mPk_at hK (hP.sub (ws' := (lW cI h a l_found_5 p1 l_t l_u l_six_1 l_all_6 l_w l_basis l_crossed)) [0, 1, 2, 3, 4, 5] rfl) (hD.sub (ws' := (lW cI h a l_found_5 p1 l_t l_u l_six_1 l_all_6 l_w l_basis l_crossed)) [0, 1, 2, 3, 4, 5] (by decide) rfl) hN⟩ rfl rfl hl.1 rfl (lv_room (Nat.le_of_ble_eq_true rfl)) dX2_find_43 ⟨Nat.zero_le _, Nat.zero_le _⟩) hP hD hS hA [0, 1, 2, 3, 4, 5] [6] rfl rfl rfl rfl rfl (by decide) (fun H locs hP hD hS => ?_)
        obtain ⟨x3_9, e_x3_9, hF⟩ := nm_ex hF
        refine lv_iinc (v := x3_9) (lv' := [(3, .int x3_9), (0, .ref h)]) hx hb dX2_find_46 hl (k := 1) rfl (by rw [e_x3_9]; rfl) (by decide) rfl (fun ls hl => ?_)
        refine lv_goto (tgt := 31) hx hb dX2_find_49 (by decide) ?_
        exact ih31 x3_9 l_found_7 l_all_8 H locs ls hP hD hS (lv_sub hl [1, 0] rfl) hF
  exact hL31 fu (0 : Int32) l_found_2 l_all_3 H locs ls hP hD hS (lv_sub hl [1, 0] rfl) hF
def fX2_part (l_all : Nat → Int32) (p0 : Int32) (p1 : Int32) : Option (Int32) :=
  nm (((3 : Int32) * p0) + p1) (fun (v_1 : Int32) => if okI v_1 24 then nm (l_all v_1.toNatClampNeg) (fun (v_2 : Int32) => some v_2) else none)
def lkX2_part : List Cond := [.fieldLink RX2 13 "KinForms$Lines" "all" "[I"]
def vX2_part : List Cond := .code yX2_part cX2_part 3 (some .int) :: (lkX2_part ++ (wsX20 ++ ([])))
theorem q_X2_part : ∀ w ∈ vX2_part, goodWord w = true := gd_cons rfl (gd_app (by decide +kernel) (gd_app q_wsX20 gd_nil))
abbrev rmX2_part : Room := { frames := 0, cells := 0, slots := 0, locals := 0 }
set_option maxHeartbeats 4000000 in
set_option maxRecDepth 100000 in
theorem c_X2_part (l : Launch) (dC : Nat → ClassId) (dI : Nat → Nat → Nat) (cI : ClassId) (h : Nat) (a : Nat → Nat) (l_found : Int32) (l_p : Int32) (l_t : Int32) (l_u : Int32) (l_six : Nat → Int32) (l_all : Nat → Int32) (l_w : Nat → Int32) (l_basis : Nat → Int32) (l_crossed : Nat → Int32) (p0 : Int32) (p1 : Int32) (ro : Int32) (hF : fX2_part l_all p0 p1 = some ro) : Met l yX2_part vX2_part rmX2_part (va_Pc [.ref h, .int p0, .int p1] (rPk (dC, dI) vwCl (lW cI h a l_found l_p l_t l_u l_six l_all l_w l_basis l_crossed) [(cI, .int)])) (vp_Si (fun x => x = ro)) 0 0 (fun _ => False) := by
  refine Met.ofW (cc := cX2_part) (maxL := 3) (ret := (some .int)) (by decide) rfl ?_
  intro p e s m args below meth c s₁ B hml hv
  obtain ⟨rfl, hP, hK, hN⟩ := hv
  have hx := B.exec
  have hb := B.bytes
  have hr := B.returns
  have hts := atoms_spec (ws := vX2_part) B.pre
  have hlk : ∀ w ∈ lkX2_part, w.before _ s = true := fun w h => hts w (List.mem_cons_of_mem _ (List.mem_append_left _ h))
  have hown : s.vm.findClass RX2 = some m.cls := findClass_of_methodNamed B.named
  have hlocks := B.notSynchronized
  have hinX2 : ∀ w ∈ wsX20, w ∈ vX2_part := fun w h => List.mem_cons_of_mem _ (List.mem_append_right _ (List.mem_append_left _ h))
  have hf_13 := hlk (.fieldLink RX2 13 "KinForms$Lines" "all" "[I") (by decide +kernel)
  have hl := lv_entry ([.ref h, .int p0, .int p1] : List Value) (n := 3) (Nat.le_of_ble_eq_true rfl)
  rw [lg_entry_eq]
  generalize (lg_sl ([.ref h, .int p0, .int p1] : List Value) ++ List.replicate (3 - (lg_sl ([.ref h, .int p0, .int p1] : List Value)).length) Slot.unset).toArray = ls at hl ⊢
  have hl : lv_has ls 3 [(0, .ref h), (1, .int p0), (2, .int p1)] := hl
  unfold fX2_part at hF
  refine W_Q (fun Q hQ => ?_)
  refine lv_aload_n hx hb dX2_part_0 rfl (lv_at hl 0 rfl) ?_
  refine va_get (D := (dC, dI)) (ci := 2) (v := .ref (a 2)) (C := RX2) (T := TX2) (N := 9) hx hb hts hinX2 hown hK hP 0 rfl rfl 1 (by decide) hf_13 (fun _ h9 => h9) rfl dX2_part_1 ?_
  refine lv_iconst (v := 3) hx hb dX2_part_4 (by decide) ?_
  refine lv_iload_n hx hb dX2_part_5 rfl (lv_at hl 1 rfl) ?_
  refine lv_imul hx hb dX2_part_6 ?_
  refine lv_iload_n hx hb dX2_part_7 rfl (lv_at hl 2 rfl) ?_
  refine lv_iadd hx hb dX2_part_8 ?_
  refine lv_topi (fun v_1 e_v_1 => ?_)
  have hF := nm_at hF e_v_1
  obtain ⟨hi, hF⟩ := ck_of hF
  refine va_iald hx hb hK hP 2 0 rfl rfl hi dX2_part_9 ?_
  refine lv_topi (fun v_2 e_v_2 => ?_)
  have hF := nm_at hF e_v_2
  have q0 := sm1 hF
  refine W_Qe hQ ?_
  exact W.iret hx hb hr (fun t ht hW => ⟨_, rfl, q0, ht⟩) (fun _ h9 => by cases h9) dX2_part_10
def fX2_choose_L68 (l_u_6 : Int32) (l_p : Int32) (l_six : Nat → Int32) : Nat → (Int32) → (Int32) → (Nat → Int32) → Option ((Int32) × (Int32) × (Nat → Int32))
  | 0, _, _, _ => none
  | n + 1, x2_9, l_t_10, l_w_11 => nm (some (l_t_10, l_u_6, l_w_11)) (fun (k128 : Option ((Int32) × (Int32) × (Nat → Int32))) => if l_p ≤ x2_9 then ((k128)) else (bd1 (fX4_atRow 3 l_six l_w_11 (0 : Int32)) (fun (r_12 : Int32) => nm (l_p * l_p) (fun (v_13 : Int32) => if ¬ v_13 = 0 then if (r_12 - r_12 / v_13 * v_13) = 0 then ((k128)) else (if okI l_u_6 3 then if okI l_u_6 3 then nm (upd l_w_11 l_u_6.toNatClampNeg ((l_w_11 l_u_6.toNatClampNeg) + l_p)) (fun (l_w_14 : Nat → Int32) => nm (x2_9 + (1 : Int32)) (fun (x2_15 : Int32) => (fX2_choose_L68 l_u_6 l_p l_six n x2_15 x2_9 l_w_14))) else none else none) else none))))
def fX2_choose_L7 (k45 : (Int32) → Option ((Int32) × (Int32) × (Nat → Int32))) (l_six : Nat → Int32) (l_all : Nat → Int32) (p0 : Int32) (l_p : Int32) : Nat → (Int32) → (Int32) → Option ((Int32) × (Int32) × (Nat → Int32))
  | 0, _, _ => none
  | n + 1, x2_1, l_u_2 => if x2_1 < 0 then ((k45 l_u_2)) else (bd1 (fX4_touchUnit 24 l_six l_all ((3 : Int32) * p0) x2_1) (fun (r_3 : Int32) => if ¬ l_p = 0 then nm (fun (l_u_4 : Int32) => nm (x2_1 + (-1 : Int32)) (fun (x2_5 : Int32) => (fX2_choose_L7 k45 l_six l_all p0 l_p n x2_5 l_u_4))) (fun (k39 : (Int32) → Option ((Int32) × (Int32) × (Nat → Int32))) => if (r_3 - r_3 / l_p * l_p) = 0 then ((k39 l_u_2)) else ((k39 x2_1))) else none))
def fX2_choose (fu : Nat) (l_p : Int32) (l_six : Nat → Int32) (l_all : Nat → Int32) (l_w : Nat → Int32) (p0 : Int32) : Option ((Int32) × (Int32) × (Nat → Int32)) :=
  nm (fun (l_u_6 : Int32) => nm ((3 : Int32) * p0) (fun (v_7 : Int32) => if ¬ v_7 < 0 then if v_7.toNatClampNeg + 3 ≤ 24 then nm (va_cpy l_all l_w v_7.toNatClampNeg 0 3) (fun (l_w_8 : Nat → Int32) => (fX2_choose_L68 l_u_6 l_p l_six fu (1 : Int32) (0 : Int32) l_w_8)) else none else none)) (fun (k45 : (Int32) → Option ((Int32) × (Int32) × (Nat → Int32))) => (fX2_choose_L7 k45 l_six l_all p0 l_p fu (2 : Int32) (0 : Int32)))
def lkX2_choose : List Cond := [.initialized RX4, .static yX4_touchUnit, .methodLink RX2 29 arraycopyName, .native arraycopyName, .static arraycopyName, .initialized "java/lang/System", .static yX4_atRow, .fieldLink RX2 48 "KinForms$Lines" "u" "I", .fieldLink RX2 7 "KinForms$Lines" "six" "[I", .fieldLink RX2 13 "KinForms$Lines" "all" "[I", .fieldLink RX2 25 "KinForms$Lines" "p" "I", .fieldLink RX2 16 "KinForms$Lines" "w" "[I", .fieldLink RX2 55 "KinForms$Lines" "t" "I"]
def vX2_choose : List Cond := .code yX2_choose cX2_choose 3 none :: (lkX2_choose ++ (wsX20 ++ (vX4_touchUnit ++ (vX4_atRow ++ ([])))))
theorem q_X2_choose : ∀ w ∈ vX2_choose, goodWord w = true := gd_cons rfl (gd_app (by decide +kernel) (gd_app q_wsX20 (gd_app q_X4_touchUnit (gd_app q_X4_atRow gd_nil))))
theorem g_X2_choose_X4_touchUnit : GoodIn vX2_choose (vX4_touchUnit) := gi_of (fun w h => List.mem_cons_of_mem _ (List.mem_append_right _ (List.mem_append_right _ (List.mem_append_left _ h)))) q_X4_touchUnit
theorem g_X2_choose_X4_atRow : GoodIn vX2_choose (vX4_atRow) := gi_of (fun w h => List.mem_cons_of_mem _ (List.mem_append_right _ (List.mem_append_right _ (List.mem_append_right _ (List.mem_append_left _ h))))) q_X4_atRow
abbrev rmX2_choose : Room := { frames := 2, cells := 0, slots := 0, locals := 45 }
set_option maxHeartbeats 4000000 in
set_option maxRecDepth 100000 in
theorem c_X2_choose (l : Launch) (dC : Nat → ClassId) (dI : Nat → Nat → Nat) (cI : ClassId) (h : Nat) (a : Nat → Nat) (fu : Nat) (sz : Nat) (l_found : Int32) (l_p : Int32) (l_t : Int32) (l_u : Int32) (l_six : Nat → Int32) (l_all : Nat → Int32) (l_w : Nat → Int32) (l_basis : Nat → Int32) (l_crossed : Nat → Int32) (p0 : Int32) (o_l_t : Int32) (o_l_u : Int32) (o_l_w : Nat → Int32) (hF : fX2_choose fu l_p l_six l_all l_w p0 = some (o_l_t, o_l_u, o_l_w)) : Met l yX2_choose vX2_choose rmX2_choose (va_Pc [.ref h, .int p0] (mPk (dC, dI) vwCl (lW cI h a l_found l_p l_t l_u l_six l_all l_w l_basis l_crossed) [(cI, .int)] sz)) (va_Qv (fun (_ : Unit) => True) (mPo (dC, dI) vwCl (lW cI h a l_found l_p o_l_t o_l_u l_six l_all o_l_w l_basis l_crossed) [(cI, .int)] (va_A (lW cI h a l_found l_p l_t l_u l_six l_all l_w l_basis l_crossed) sz)) (va_A (lW cI h a l_found l_p l_t l_u l_six l_all l_w l_basis l_crossed) sz)) 0 0 (va_A (lW cI h a l_found l_p l_t l_u l_six l_all l_w l_basis l_crossed) sz) := by
  refine Met.ofW (cc := cX2_choose) (maxL := 3) (ret := none) (by decide) rfl ?_
  intro p e s m args below meth c s₁ B hml hv
  obtain ⟨rfl, hsz, hP, hK, hD0, hN⟩ := hv
  have hx := B.exec
  have hb := B.bytes
  have hr := B.returns
  have hts := atoms_spec (ws := vX2_choose) B.pre
  have hlk : ∀ w ∈ lkX2_choose, w.before _ s = true := fun w h => hts w (List.mem_cons_of_mem _ (List.mem_append_left _ h))
  have hown : s.vm.findClass RX2 = some m.cls := findClass_of_methodNamed B.named
  have hlocks := B.notSynchronized
  subst hsz
  have hD := hD0.self (sz := s.heap.size)
  generalize hAe : va_A (lW cI h a l_found l_p l_t l_u l_six l_all l_w l_basis l_crossed) s.heap.size = A at hD ⊢
  have hA : ∀ q : Nat, s.heap.size ≤ q → A q := fun q h => by rw [← hAe]; exact Or.inr h
  have hS : va_S A s.heap s.heap [] := va_S.rf
  have hinX2 : ∀ w ∈ wsX20, w ∈ vX2_choose := fun w h => List.mem_cons_of_mem _ (List.mem_append_right _ (List.mem_append_left _ h))
  have hf_48 := hlk (.fieldLink RX2 48 "KinForms$Lines" "u" "I") (by decide +kernel)
  have hf_7 := hlk (.fieldLink RX2 7 "KinForms$Lines" "six" "[I") (by decide +kernel)
  have hf_13 := hlk (.fieldLink RX2 13 "KinForms$Lines" "all" "[I") (by decide +kernel)
  have hf_25 := hlk (.fieldLink RX2 25 "KinForms$Lines" "p" "I") (by decide +kernel)
  have hf_16 := hlk (.fieldLink RX2 16 "KinForms$Lines" "w" "[I") (by decide +kernel)
  have hf_55 := hlk (.fieldLink RX2 55 "KinForms$Lines" "t" "I") (by decide +kernel)
  have hl := lv_entry ([.ref h, .int p0] : List Value) (n := 3) (Nat.le_of_ble_eq_true rfl)
  rw [lg_entry_eq]
  generalize (lg_sl ([.ref h, .int p0] : List Value) ++ List.replicate (3 - (lg_sl ([.ref h, .int p0] : List Value)).length) Slot.unset).toArray = ls at hl ⊢
  have hl : lv_has ls 3 [(0, .ref h), (1, .int p0)] := hl
  unfold fX2_choose at hF
  refine W_Q (fun Q hQ => ?_)
  have hP : va_P (dC, dI) vwCl (lW cI h a l_found l_p l_t l_u l_six l_all l_w l_basis l_crossed) s.heap := hP
  refine W_HL (fun H locs eH eL => ?_)
  rw [← eH] at hP
  have hS : va_S A s.heap H locs := by rw [eH, eL]; exact hS
  refine lv_aload_n hx hb dX2_choose_0 rfl (lv_at hl 0 rfl) ?_
  refine lv_iconst (v := 0) hx hb dX2_choose_1 (by decide) ?_
  refine va_put (D := (dC, dI)) (ci := 2) (v := .int (0 : Int32)) (ty := .int) (C := RX2) (T := TX2) (N := 9) hx hb hts hinX2 tyX2 tyX2_ok nmX2 hown hK hP hD hS 0 rfl rfl 8 (by decide) hf_48 (fun _ h9 => h9) rfl (by decide +kernel) rfl rfl (Nat.le_of_ble_eq_true rfl) dX2_choose_2 (fun H locs hP hD hS => ?_)
  have hP : va_P (dC, dI) vwCl (lW cI h a l_found l_p l_t (0 : Int32) l_six l_all l_w l_basis l_crossed) H := hP
  have hD : va_D A (lW cI h a l_found l_p l_t (0 : Int32) l_six l_all l_w l_basis l_crossed) := hD
  refine lv_iconst (v := 2) hx hb dX2_choose_5 (by decide) ?_
  refine lv_istore_n (lv' := [(2, .int (2 : Int32)), (0, .ref h), (1, .int p0)]) hx hb dX2_choose_6 rfl hl (by decide) rfl (fun ls hl => ?_)
  obtain ⟨k45, e_k45, hF⟩ := nm_ex hF
  have hk45 : ∀ (l_u_6 : Int32) (H : Heap) (locs : List Loc) (ls : Array Slot), va_P (dC, dI) vwCl (lW cI h a l_found l_p l_t l_u_6 l_six l_all l_w l_basis l_crossed) H → va_D A (lW cI h a l_found l_p l_t l_u_6 l_six l_all l_w l_basis l_crossed) → va_S A s.heap H locs → lv_has ls 3 [(0, .ref h), (1, .int p0)] → k45 l_u_6 = some (o_l_t, o_l_u, o_l_w) → W p l e rmX2_choose s m ([.ref h, .int p0] : List Value).toArray below meth c H locs 0 0 Q (F0 m 45 ls []) := by
    intro l_u_6 H locs ls hP hD hS hl hF
    have hF := ka1 e_k45 hF
    refine lv_aload_n hx hb dX2_choose_45 rfl (lv_at hl 0 rfl) ?_
    refine va_get (D := (dC, dI)) (ci := 2) (v := .ref (a 2)) (C := RX2) (T := TX2) (N := 9) hx hb hts hinX2 hown hK hP 0 rfl rfl 1 (by decide) hf_13 (fun _ h9 => h9) rfl dX2_choose_46 ?_
    refine lv_iconst (v := 3) hx hb dX2_choose_49 (by decide) ?_
    refine lv_iload_n hx hb dX2_choose_50 rfl (lv_at hl 1 rfl) ?_
    refine lv_imul hx hb dX2_choose_51 ?_
    refine lv_aload_n hx hb dX2_choose_52 rfl (lv_at hl 0 rfl) ?_
    refine va_get (D := (dC, dI)) (ci := 2) (v := .ref (a 3)) (C := RX2) (T := TX2) (N := 9) hx hb hts hinX2 hown hK hP 0 rfl rfl 2 (by decide) hf_16 (fun _ h9 => h9) rfl dX2_choose_53 ?_
    refine lv_iconst (v := 0) hx hb dX2_choose_56 (by decide) ?_
    refine lv_iconst (v := 3) hx hb dX2_choose_57 (by decide) ?_
    obtain ⟨v_7, e_v_7, hF⟩ := nm_ex hF
    rw [← e_v_7]
    obtain ⟨h1, hF⟩ := ck_of hF
    obtain ⟨h4, hF⟩ := ck_of hF
    obtain ⟨l_w_8, e_l_w_8, hF⟩ := nm_ex hF
    refine kc_copy (N := 3) (SP := v_7.toNatClampNeg) (DP := 0) (g1 := l_w_8) hx hb (hml.trans hl.1.symm) hown (hlk (.methodLink RX2 29 arraycopyName) (by decide +kernel)) (hlk (.native arraycopyName) (by decide +kernel)) (hlk (.static arraycopyName) (by decide +kernel)) (hlk (.initialized "java/lang/System") (by decide +kernel)) hK hP hD hS 2 3 0 0 rfl rfl rfl rfl h1 (by decide) (by decide) (by decide) rfl (by decide) h4 (by decide) (Nat.le_of_ble_eq_true rfl) (Nat.le_of_ble_eq_true rfl) dX2_choose_58 e_l_w_8 (fun H locs hP hD hS => ?_)
    have hP : va_P (dC, dI) vwCl (lW cI h a l_found l_p l_t l_u_6 l_six l_all l_w_8 l_basis l_crossed) H := hP
    have hD : va_D A (lW cI h a l_found l_p l_t l_u_6 l_six l_all l_w_8 l_basis l_crossed) := hD
    refine lv_aload_n hx hb dX2_choose_61 rfl (lv_at hl 0 rfl) ?_
    refine lv_iconst (v := 0) hx hb dX2_choose_62 (by decide) ?_
    refine va_put (D := (dC, dI)) (ci := 2) (v := .int (0 : Int32)) (ty := .int) (C := RX2) (T := TX2) (N := 9) hx hb hts hinX2 tyX2 tyX2_ok nmX2 hown hK hP hD hS 0 rfl rfl 7 (by decide) hf_55 (fun _ h9 => h9) rfl (by decide +kernel) rfl rfl (Nat.le_of_ble_eq_true rfl) dX2_choose_63 (fun H locs hP hD hS => ?_)
    have hP : va_P (dC, dI) vwCl (lW cI h a l_found l_p (0 : Int32) l_u_6 l_six l_all l_w_8 l_basis l_crossed) H := hP
    have hD : va_D A (lW cI h a l_found l_p (0 : Int32) l_u_6 l_six l_all l_w_8 l_basis l_crossed) := hD
    refine lv_iconst (v := 1) hx hb dX2_choose_66 (by decide) ?_
    refine lv_istore_n (lv' := [(2, .int (1 : Int32)), (0, .ref h), (1, .int p0)]) hx hb dX2_choose_67 rfl hl (by decide) rfl (fun ls hl => ?_)
    have hL68 : ∀ n : Nat, ∀ (x2_9 : Int32) (l_t_10 : Int32) (l_w_11 : Nat → Int32) (H : Heap) (locs : List Loc) (ls : Array Slot), va_P (dC, dI) vwCl (lW cI h a l_found l_p l_t_10 l_u_6 l_six l_all l_w_11 l_basis l_crossed) H → va_D A (lW cI h a l_found l_p l_t_10 l_u_6 l_six l_all l_w_11 l_basis l_crossed) → va_S A s.heap H locs → lv_has ls 3 [(0, .ref h), (2, .int x2_9)] → fX2_choose_L68 l_u_6 l_p l_six n x2_9 l_t_10 l_w_11 = some (o_l_t, o_l_u, o_l_w) → W p l e rmX2_choose s m ([.ref h, .int p0] : List Value).toArray below meth c H locs 0 0 Q (F0 m 68 ls []) := by
      intro n
      induction n with
      | zero => intro x2_9 l_t_10 l_w_11 H locs ls hP hD hS hl hF; rw [fX2_choose_L68] at hF; cases hF
      | succ n ih68 =>
        intro x2_9 l_t_10 l_w_11 H locs ls hP hD hS hl hF
        rw [fX2_choose_L68] at hF
        refine lv_iload_n hx hb dX2_choose_68 rfl (lv_at hl 1 rfl) ?_
        refine lv_aload_n hx hb dX2_choose_69 rfl (lv_at hl 0 rfl) ?_
        refine va_get (D := (dC, dI)) (ci := 2) (v := .int l_p) (C := RX2) (T := TX2) (N := 9) hx hb hts hinX2 hown hK hP 0 rfl rfl 6 (by decide) hf_25 (fun _ h9 => h9) rfl dX2_choose_70 ?_
        obtain ⟨k128, e_k128, hF⟩ := nm_ex hF
        have hk128 : ∀  (H : Heap) (locs : List Loc) (ls : Array Slot), va_P (dC, dI) vwCl (lW cI h a l_found l_p l_t_10 l_u_6 l_six l_all l_w_11 l_basis l_crossed) H → va_D A (lW cI h a l_found l_p l_t_10 l_u_6 l_six l_all l_w_11 l_basis l_crossed) → va_S A s.heap H locs → lv_has ls 3 [] → k128 = some (o_l_t, o_l_u, o_l_w) → W p l e rmX2_choose s m ([.ref h, .int p0] : List Value).toArray below meth c H locs 0 0 Q (F0 m 128 ls []) := by
          intro H locs ls hP hD hS hl hF
          have hF := ka0 e_k128 hF
          obtain ⟨q0, q1, q2⟩ := sm3 hF
          have hP : va_P (dC, dI) vwCl (lW cI h a l_found l_p o_l_t o_l_u l_six l_all o_l_w l_basis l_crossed) H := by rw [← q0, ← q1, ← q2]; exact hP
          have hD : va_D A (lW cI h a l_found l_p o_l_t o_l_u l_six l_all o_l_w l_basis l_crossed) := by rw [← q0, ← q1, ← q2]; exact hD
          refine W_Qe hQ ?_
          exact W.vret hx hb hr (fun t ht hW => ⟨⟨(), rfl, trivial, by rw [ht]; exact hP, va_K.moved hW.alike hK, hD⟩, hS.F ht⟩) hS.2.2 dX2_choose_128
        clear e_k128
        refine lv_icmp_ge (tgt := 128) hx hb dX2_choose_73 (by decide) (fun c0 => ?_) (fun c0 => ?_)
        · have hF := if_t hF c0
          exact hk128 H locs ls hP hD hS (lv_sub hl [] rfl) hF
        · have hF := if_f hF c0
          refine lv_aload_n hx hb dX2_choose_76 rfl (lv_at hl 0 rfl) ?_
          refine va_get (D := (dC, dI)) (ci := 2) (v := .ref (a 1)) (C := RX2) (T := TX2) (N := 9) hx hb hts hinX2 hown hK hP 0 rfl rfl 0 (by decide) hf_7 (fun _ h9 => h9) rfl dX2_choose_77 ?_
          refine lv_aload_n hx hb dX2_choose_80 rfl (lv_at hl 0 rfl) ?_
          refine va_get (D := (dC, dI)) (ci := 2) (v := .ref (a 3)) (C := RX2) (T := TX2) (N := 9) hx hb hts hinX2 hown hK hP 0 rfl rfl 2 (by decide) hf_16 (fun _ h9 => h9) rfl dX2_choose_81 ?_
          refine lv_iconst (v := 0) hx hb dX2_choose_84 (by decide) ?_
          obtain ⟨r_12, hc, hF⟩ := bd1_of hF
          refine rc_i (va_runSN (As := [.ref (a 1), .ref (a 3), .int (0 : Int32)]) (rest := []) ⟨hx, hb, hml, hown, hts⟩ (c_X4_atRow l dC dI cI (a 1) (a 3) 3 l_six l_w_11 (0 : Int32) r_12 hc) ⟨va_cnB 3 hts g_X2_choose_X4_atRow rfl rfl rfl (hN.2 (RX2, 58, yX4_atRow, "KinForms") (by decide +kernel)) (hlk (.initialized RX4) (by decide +kernel)) (by decide +kernel) ⟨Nat.le_of_ble_eq_true rfl, Nat.le_of_ble_eq_true rfl⟩, hlk (.static yX4_atRow) (by decide +kernel), trivial⟩ ⟨rPk_blind, rPk_at hK (hP.sub (ws' := (sW2 cI (a 1) (a 3) 3 l_six l_w_11)) [1, 3] rfl) hN⟩ rfl rfl hl.1 rfl (lv_room (Nat.le_of_ble_eq_true rfl)) dX2_choose_85 ⟨Nat.zero_le _, Nat.zero_le _⟩) ?_
          refine lv_aload_n hx hb dX2_choose_88 rfl (lv_at hl 0 rfl) ?_
          refine va_get (D := (dC, dI)) (ci := 2) (v := .int l_p) (C := RX2) (T := TX2) (N := 9) hx hb hts hinX2 hown hK hP 0 rfl rfl 6 (by decide) hf_25 (fun _ h9 => h9) rfl dX2_choose_89 ?_
          refine lv_aload_n hx hb dX2_choose_92 rfl (lv_at hl 0 rfl) ?_
          refine va_get (D := (dC, dI)) (ci := 2) (v := .int l_p) (C := RX2) (T := TX2) (N := 9) hx hb hts hinX2 hown hK hP 0 rfl rfl 6 (by decide) hf_25 (fun _ h9 => h9) rfl dX2_choose_93 ?_
          refine lv_imul hx hb dX2_choose_96 ?_
          refine lv_topi (fun v_13 e_v_13 => ?_)
          have hF := nm_at hF e_v_13
          obtain ⟨hz, hF⟩ := ck_of hF
          refine lv_irem hx hb dX2_choose_97 hz ?_
          refine lv_if_eq (tgt := 128) hx hb dX2_choose_98 (by decide) (fun c0 => ?_) (fun c0 => ?_)
          · have hF := if_t hF c0
            exact hk128 H locs ls hP hD hS (lv_sub hl [] rfl) hF
          · have hF := if_f hF c0
            refine lv_aload_n hx hb dX2_choose_101 rfl (lv_at hl 0 rfl) ?_
            refine va_get (D := (dC, dI)) (ci := 2) (v := .ref (a 3)) (C := RX2) (T := TX2) (N := 9) hx hb hts hinX2 hown hK hP 0 rfl rfl 2 (by decide) hf_16 (fun _ h9 => h9) rfl dX2_choose_102 ?_
            refine lv_aload_n hx hb dX2_choose_105 rfl (lv_at hl 0 rfl) ?_
            refine va_get (D := (dC, dI)) (ci := 2) (v := .int l_u_6) (C := RX2) (T := TX2) (N := 9) hx hb hts hinX2 hown hK hP 0 rfl rfl 8 (by decide) hf_48 (fun _ h9 => h9) rfl dX2_choose_106 ?_
            refine lv_dup2_11 hx hb dX2_choose_109 rfl rfl ?_
            obtain ⟨hi, hF⟩ := ck_of hF
            refine va_iald hx hb hK hP 3 0 rfl rfl hi dX2_choose_110 ?_
            refine lv_aload_n hx hb dX2_choose_111 rfl (lv_at hl 0 rfl) ?_
            refine va_get (D := (dC, dI)) (ci := 2) (v := .int l_p) (C := RX2) (T := TX2) (N := 9) hx hb hts hinX2 hown hK hP 0 rfl rfl 6 (by decide) hf_25 (fun _ h9 => h9) rfl dX2_choose_112 ?_
            refine lv_iadd hx hb dX2_choose_115 ?_
            obtain ⟨hi, hF⟩ := ck_of hF
            obtain ⟨l_w_14, e_l_w_14, hF⟩ := nm_ex hF
            refine kc_iast (j := l_u_6.toNatClampNeg) (g := l_w_14) hx hb hK hP hD hS 3 0 rfl rfl rfl hi dX2_choose_116 e_l_w_14 (fun H locs hP hD hS => ?_)
            have hP : va_P (dC, dI) vwCl (lW cI h a l_found l_p l_t_10 l_u_6 l_six l_all l_w_14 l_basis l_crossed) H := hP
            have hD : va_D A (lW cI h a l_found l_p l_t_10 l_u_6 l_six l_all l_w_14 l_basis l_crossed) := hD
            refine lv_aload_n hx hb dX2_choose_117 rfl (lv_at hl 0 rfl) ?_
            refine lv_iload_n hx hb dX2_choose_118 rfl (lv_at hl 1 rfl) ?_
            refine va_put (D := (dC, dI)) (ci := 2) (v := .int x2_9) (ty := .int) (C := RX2) (T := TX2) (N := 9) hx hb hts hinX2 tyX2 tyX2_ok nmX2 hown hK hP hD hS 0 rfl rfl 7 (by decide) hf_55 (fun _ h9 => h9) rfl (by decide +kernel) rfl rfl (Nat.le_of_ble_eq_true rfl) dX2_choose_119 (fun H locs hP hD hS => ?_)
            have hP : va_P (dC, dI) vwCl (lW cI h a l_found l_p x2_9 l_u_6 l_six l_all l_w_14 l_basis l_crossed) H := hP
            have hD : va_D A (lW cI h a l_found l_p x2_9 l_u_6 l_six l_all l_w_14 l_basis l_crossed) := hD
            obtain ⟨x2_15, e_x2_15, hF⟩ := nm_ex hF
            refine lv_iinc (v := x2_15) (lv' := [(2, .int x2_15), (0, .ref h)]) hx hb dX2_choose_122 hl (k := 1) rfl (by rw [e_x2_15]; rfl) (by decide) rfl (fun ls hl => ?_)
            refine lv_goto (tgt := 68) hx hb dX2_choose_125 (by decide) ?_
            exact ih68 x2_15 x2_9 l_w_14 H locs ls hP hD hS (lv_sub hl [1, 0] rfl) hF
    exact hL68 fu (1 : Int32) (0 : Int32) l_w_8 H locs ls hP hD hS (lv_sub hl [1, 0] rfl) hF
  clear e_k45
  have hL7 : ∀ n : Nat, ∀ (x2_1 : Int32) (l_u_2 : Int32) (H : Heap) (locs : List Loc) (ls : Array Slot), va_P (dC, dI) vwCl (lW cI h a l_found l_p l_t l_u_2 l_six l_all l_w l_basis l_crossed) H → va_D A (lW cI h a l_found l_p l_t l_u_2 l_six l_all l_w l_basis l_crossed) → va_S A s.heap H locs → lv_has ls 3 [(0, .ref h), (1, .int p0), (2, .int x2_1)] → fX2_choose_L7 k45 l_six l_all p0 l_p n x2_1 l_u_2 = some (o_l_t, o_l_u, o_l_w) → W p l e rmX2_choose s m ([.ref h, .int p0] : List Value).toArray below meth c H locs 0 0 Q (F0 m 7 ls []) := by
    intro n
    induction n with
    | zero => intro x2_1 l_u_2 H locs ls hP hD hS hl hF; rw [fX2_choose_L7] at hF; cases hF
    | succ n ih7 =>
      intro x2_1 l_u_2 H locs ls hP hD hS hl hF
      rw [fX2_choose_L7] at hF
      refine lv_iload_n hx hb dX2_choose_7 rfl (lv_at hl 2 rfl) ?_
      refine lv_if_lt (tgt := 45) hx hb dX2_choose_8 (by decide) (fun c0 => ?_) (fun c0 => ?_)
      · have hF := if_t hF c0
        exact hk45 l_u_2 H locs ls hP hD hS (lv_sub hl [0, 1] rfl) hF
      · have hF := if_f hF c0
        refine lv_aload_n hx hb dX2_choose_11 rfl (lv_at hl 0 rfl) ?_
        refine va_get (D := (dC, dI)) (ci := 2) (v := .ref (a 1)) (C := RX2) (T := TX2) (N := 9) hx hb hts hinX2 hown hK hP 0 rfl rfl 0 (by decide) hf_7 (fun _ h9 => h9) rfl dX2_choose_12 ?_
        refine lv_aload_n hx hb dX2_choose_15 rfl (lv_at hl 0 rfl) ?_
        refine va_get (D := (dC, dI)) (ci := 2) (v := .ref (a 2)) (C := RX2) (T := TX2) (N := 9) hx hb hts hinX2 hown hK hP 0 rfl rfl 1 (by decide) hf_13 (fun _ h9 => h9) rfl dX2_choose_16 ?_
        refine lv_iconst (v := 3) hx hb dX2_choose_19 (by decide) ?_
        refine lv_iload_n hx hb dX2_choose_20 rfl (lv_at hl 1 rfl) ?_
        refine lv_imul hx hb dX2_choose_21 ?_
        refine lv_iload_n hx hb dX2_choose_22 rfl (lv_at hl 2 rfl) ?_
        obtain ⟨r_3, hc, hF⟩ := bd1_of hF
        refine rc_i (va_runSN (As := [.ref (a 1), .ref (a 2), .int ((3 : Int32) * p0), .int x2_1]) (rest := []) ⟨hx, hb, hml, hown, hts⟩ (c_X4_touchUnit l dC dI cI (a 1) (a 2) 24 l_six l_all ((3 : Int32) * p0) x2_1 r_3 hc) ⟨va_cnB 4 hts g_X2_choose_X4_touchUnit rfl rfl rfl (hN.2 (RX2, 51, yX4_touchUnit, "KinForms") (by decide +kernel)) (hlk (.initialized RX4) (by decide +kernel)) (by decide +kernel) ⟨Nat.le_of_ble_eq_true rfl, Nat.le_of_ble_eq_true rfl⟩, hlk (.static yX4_touchUnit) (by decide +kernel), trivial⟩ ⟨rPk_blind, rPk_at hK (hP.sub (ws' := (sW2 cI (a 1) (a 2) 24 l_six l_all)) [1, 2] rfl) hN⟩ rfl rfl hl.1 rfl (lv_room (Nat.le_of_ble_eq_true rfl)) dX2_choose_23 ⟨Nat.zero_le _, Nat.zero_le _⟩) ?_
        refine lv_aload_n hx hb dX2_choose_26 rfl (lv_at hl 0 rfl) ?_
        refine va_get (D := (dC, dI)) (ci := 2) (v := .int l_p) (C := RX2) (T := TX2) (N := 9) hx hb hts hinX2 hown hK hP 0 rfl rfl 6 (by decide) hf_25 (fun _ h9 => h9) rfl dX2_choose_27 ?_
        obtain ⟨hz, hF⟩ := ck_of hF
        refine lv_irem hx hb dX2_choose_30 hz ?_
        obtain ⟨k39, e_k39, hF⟩ := nm_ex hF
        have hk39 : ∀ (l_u_4 : Int32) (H : Heap) (locs : List Loc) (ls : Array Slot), va_P (dC, dI) vwCl (lW cI h a l_found l_p l_t l_u_4 l_six l_all l_w l_basis l_crossed) H → va_D A (lW cI h a l_found l_p l_t l_u_4 l_six l_all l_w l_basis l_crossed) → va_S A s.heap H locs → lv_has ls 3 [(0, .ref h), (1, .int p0), (2, .int x2_1)] → k39 l_u_4 = some (o_l_t, o_l_u, o_l_w) → W p l e rmX2_choose s m ([.ref h, .int p0] : List Value).toArray below meth c H locs 0 0 Q (F0 m 39 ls []) := by
          intro l_u_4 H locs ls hP hD hS hl hF
          have hF := ka1 e_k39 hF
          obtain ⟨x2_5, e_x2_5, hF⟩ := nm_ex hF
          refine lv_iinc (v := x2_5) (lv' := [(2, .int x2_5), (0, .ref h), (1, .int p0)]) hx hb dX2_choose_39 hl (k := 2) rfl (by rw [e_x2_5]; rfl) (by decide) rfl (fun ls hl => ?_)
          refine lv_goto (tgt := 7) hx hb dX2_choose_42 (by decide) ?_
          exact ih7 x2_5 l_u_4 H locs ls hP hD hS (lv_sub hl [1, 2, 0] rfl) hF
        clear e_k39
        refine lv_if_eq (tgt := 39) hx hb dX2_choose_31 (by decide) (fun c0 => ?_) (fun c0 => ?_)
        · have hF := if_t hF c0
          exact hk39 l_u_2 H locs ls hP hD hS (lv_sub hl [0, 1, 2] rfl) hF
        · have hF := if_f hF c0
          refine lv_aload_n hx hb dX2_choose_34 rfl (lv_at hl 0 rfl) ?_
          refine lv_iload_n hx hb dX2_choose_35 rfl (lv_at hl 2 rfl) ?_
          refine va_put (D := (dC, dI)) (ci := 2) (v := .int x2_1) (ty := .int) (C := RX2) (T := TX2) (N := 9) hx hb hts hinX2 tyX2 tyX2_ok nmX2 hown hK hP hD hS 0 rfl rfl 8 (by decide) hf_48 (fun _ h9 => h9) rfl (by decide +kernel) rfl rfl (Nat.le_of_ble_eq_true rfl) dX2_choose_36 (fun H locs hP hD hS => ?_)
          have hP : va_P (dC, dI) vwCl (lW cI h a l_found l_p l_t x2_1 l_six l_all l_w l_basis l_crossed) H := hP
          have hD : va_D A (lW cI h a l_found l_p l_t x2_1 l_six l_all l_w l_basis l_crossed) := hD
          exact hk39 x2_1 H locs ls hP hD hS (lv_sub hl [0, 1, 2] rfl) hF
  exact hL7 fu (2 : Int32) (0 : Int32) H locs ls hP hD hS (lv_sub hl [1, 2, 0] rfl) hF
def fX2_inverseOf_L14 (l_p : Int32) (r_1 : Int32) : Nat → (Int32) → (Int32) → Option (Int32)
  | 0, _, _ => none
  | n + 1, x3_2, x4_3 => if l_p ≤ x4_3 then (some x3_2) else (nm (x4_3 * r_1) (fun (v_4 : Int32) => if ¬ l_p = 0 then nm (fun (x3_5 : Int32) => nm (x4_3 + (1 : Int32)) (fun (x4_6 : Int32) => (fX2_inverseOf_L14 l_p r_1 n x3_5 x4_6))) (fun (k39 : (Int32) → Option (Int32)) => if (v_4 - v_4 / l_p * l_p) = (1 : Int32) then ((k39 x4_3)) else ((k39 x3_2))) else none))
def fX2_inverseOf (fu : Nat) (l_p : Int32) (p0 : Int32) : Option (Int32) :=
  bd1 (fJ9_floorMod_7cf53 p0 l_p) (fun (r_1 : Int32) => (fX2_inverseOf_L14 l_p r_1 fu (1 : Int32) (1 : Int32)))
def lkX2_inverseOf : List Cond := [.fieldLink RX2 25 "KinForms$Lines" "p" "I"]
def vX2_inverseOf : List Cond := .code yX2_inverseOf cX2_inverseOf 5 (some .int) :: (lkX2_inverseOf ++ (wsX20 ++ (va_wsS RX2 73 yJ9_floorMod_7cf53 vJ9_floorMod_7cf53 ++ ([]))))
theorem q_X2_inverseOf : ∀ w ∈ vX2_inverseOf, goodWord w = true := gd_cons rfl (gd_app (by decide +kernel) (gd_app q_wsX20 (gd_app (gd_S q_J9_floorMod_7cf53) gd_nil)))
theorem g_X2_inverseOf_J9_floorMod_7cf53 : GoodIn vX2_inverseOf (va_wsS RX2 73 yJ9_floorMod_7cf53 vJ9_floorMod_7cf53) := gi_of (fun w h => List.mem_cons_of_mem _ (List.mem_append_right _ (List.mem_append_right _ (List.mem_append_left _ h)))) (gd_S q_J9_floorMod_7cf53)
abbrev rmX2_inverseOf : Room := { frames := 1, cells := 0, slots := 0, locals := 22 }
set_option maxHeartbeats 4000000 in
set_option maxRecDepth 100000 in
theorem c_X2_inverseOf (l : Launch) (dC : Nat → ClassId) (dI : Nat → Nat → Nat) (cI : ClassId) (h : Nat) (a : Nat → Nat) (fu : Nat) (l_found : Int32) (l_p : Int32) (l_t : Int32) (l_u : Int32) (l_six : Nat → Int32) (l_all : Nat → Int32) (l_w : Nat → Int32) (l_basis : Nat → Int32) (l_crossed : Nat → Int32) (p0 : Int32) (ro : Int32) (hF : fX2_inverseOf fu l_p p0 = some ro) : Met l yX2_inverseOf vX2_inverseOf rmX2_inverseOf (va_Pc [.ref h, .int p0] (rPk (dC, dI) vwCl (lW cI h a l_found l_p l_t l_u l_six l_all l_w l_basis l_crossed) [(cI, .int)])) (vp_Si (fun x => x = ro)) 0 0 (fun _ => False) := by
  refine Met.ofW (cc := cX2_inverseOf) (maxL := 5) (ret := (some .int)) (by decide) rfl ?_
  intro p e s m args below meth c s₁ B hml hv
  obtain ⟨rfl, hP, hK, hN⟩ := hv
  have hx := B.exec
  have hb := B.bytes
  have hr := B.returns
  have hts := atoms_spec (ws := vX2_inverseOf) B.pre
  have hlk : ∀ w ∈ lkX2_inverseOf, w.before _ s = true := fun w h => hts w (List.mem_cons_of_mem _ (List.mem_append_left _ h))
  have hown : s.vm.findClass RX2 = some m.cls := findClass_of_methodNamed B.named
  have hlocks := B.notSynchronized
  have hinX2 : ∀ w ∈ wsX20, w ∈ vX2_inverseOf := fun w h => List.mem_cons_of_mem _ (List.mem_append_right _ (List.mem_append_left _ h))
  have hf_25 := hlk (.fieldLink RX2 25 "KinForms$Lines" "p" "I") (by decide +kernel)
  have hl := lv_entry ([.ref h, .int p0] : List Value) (n := 5) (Nat.le_of_ble_eq_true rfl)
  rw [lg_entry_eq]
  generalize (lg_sl ([.ref h, .int p0] : List Value) ++ List.replicate (5 - (lg_sl ([.ref h, .int p0] : List Value)).length) Slot.unset).toArray = ls at hl ⊢
  have hl : lv_has ls 5 [(0, .ref h), (1, .int p0)] := hl
  unfold fX2_inverseOf at hF
  refine W_Q (fun Q hQ => ?_)
  refine lv_iload_n hx hb dX2_inverseOf_0 rfl (lv_at hl 1 rfl) ?_
  refine lv_aload_n hx hb dX2_inverseOf_1 rfl (lv_at hl 0 rfl) ?_
  refine va_get (D := (dC, dI)) (ci := 2) (v := .int l_p) (C := RX2) (T := TX2) (N := 9) hx hb hts hinX2 hown hK hP 0 rfl rfl 6 (by decide) hf_25 (fun _ h9 => h9) rfl dX2_inverseOf_2 ?_
  obtain ⟨r_1, hc, hF⟩ := bd1_of hF
  refine rc_i (va_runS (As := [.int p0, .int l_p]) (rest := []) ⟨hx, hb, hml, hown, hts⟩ (c_J9_floorMod_7cf53 l p0 l_p r_1 hc) (va_cwS 2 hts g_X2_inverseOf_J9_floorMod_7cf53 rfl rfl rfl (by decide +kernel) ⟨Nat.le_of_ble_eq_true rfl, Nat.le_of_ble_eq_true rfl⟩) ⟨tPc_blind, tPc_at⟩ rfl rfl hl.1 rfl (lv_room (Nat.le_of_ble_eq_true rfl)) dX2_inverseOf_5 ⟨Nat.zero_le _, Nat.zero_le _⟩) ?_
  refine lv_istore_n (lv' := [(2, .int r_1), (0, .ref h), (1, .int p0)]) hx hb dX2_inverseOf_8 rfl hl (by decide) rfl (fun ls hl => ?_)
  refine lv_iconst (v := 1) hx hb dX2_inverseOf_9 (by decide) ?_
  refine lv_istore_n (lv' := [(3, .int (1 : Int32)), (2, .int r_1), (0, .ref h), (1, .int p0)]) hx hb dX2_inverseOf_10 rfl hl (by decide) rfl (fun ls hl => ?_)
  refine lv_iconst (v := 1) hx hb dX2_inverseOf_11 (by decide) ?_
  refine lv_istore (lv' := [(4, .int (1 : Int32)), (3, .int (1 : Int32)), (2, .int r_1), (0, .ref h), (1, .int p0)]) hx hb dX2_inverseOf_12 hl (by decide) rfl (fun ls hl => ?_)
  have hL14 : ∀ n : Nat, ∀ (x3_2 : Int32) (x4_3 : Int32) (ls : Array Slot), lv_has ls 5 [(0, .ref h), (2, .int r_1), (3, .int x3_2), (4, .int x4_3)] → fX2_inverseOf_L14 l_p r_1 n x3_2 x4_3 = some ro → W p l e rmX2_inverseOf s m ([.ref h, .int p0] : List Value).toArray below meth c s.heap [] 0 0 Q (F0 m 14 ls []) := by
    intro n
    induction n with
    | zero => intro x3_2 x4_3 ls hl hF; rw [fX2_inverseOf_L14] at hF; cases hF
    | succ n ih14 =>
      intro x3_2 x4_3 ls hl hF
      rw [fX2_inverseOf_L14] at hF
      refine lv_iload hx hb dX2_inverseOf_14 (lv_at hl 3 rfl) ?_
      refine lv_aload_n hx hb dX2_inverseOf_16 rfl (lv_at hl 0 rfl) ?_
      refine va_get (D := (dC, dI)) (ci := 2) (v := .int l_p) (C := RX2) (T := TX2) (N := 9) hx hb hts hinX2 hown hK hP 0 rfl rfl 6 (by decide) hf_25 (fun _ h9 => h9) rfl dX2_inverseOf_17 ?_
      refine lv_icmp_ge (tgt := 45) hx hb dX2_inverseOf_20 (by decide) (fun c0 => ?_) (fun c0 => ?_)
      · have hF := if_t hF c0
        refine lv_iload_n hx hb dX2_inverseOf_45 rfl (lv_at hl 2 rfl) ?_
        have q0 := sm1 hF
        refine W_Qe hQ ?_
        exact W.iret hx hb hr (fun t ht hW => ⟨_, rfl, q0, ht⟩) (fun _ h9 => by cases h9) dX2_inverseOf_46
      · have hF := if_f hF c0
        refine lv_iload hx hb dX2_inverseOf_23 (lv_at hl 3 rfl) ?_
        refine lv_iload_n hx hb dX2_inverseOf_25 rfl (lv_at hl 1 rfl) ?_
        refine lv_imul hx hb dX2_inverseOf_26 ?_
        refine lv_aload_n hx hb dX2_inverseOf_27 rfl (lv_at hl 0 rfl) ?_
        refine va_get (D := (dC, dI)) (ci := 2) (v := .int l_p) (C := RX2) (T := TX2) (N := 9) hx hb hts hinX2 hown hK hP 0 rfl rfl 6 (by decide) hf_25 (fun _ h9 => h9) rfl dX2_inverseOf_28 ?_
        obtain ⟨v_4, e_v_4, hF⟩ := nm_ex hF
        rw [← e_v_4]
        obtain ⟨hz, hF⟩ := ck_of hF
        refine lv_irem hx hb dX2_inverseOf_31 hz ?_
        refine lv_iconst (v := 1) hx hb dX2_inverseOf_32 (by decide) ?_
        obtain ⟨k39, e_k39, hF⟩ := nm_ex hF
        have hk39 : ∀ (x3_5 : Int32) (ls : Array Slot), lv_has ls 5 [(0, .ref h), (2, .int r_1), (3, .int x3_5), (4, .int x4_3)] → k39 x3_5 = some ro → W p l e rmX2_inverseOf s m ([.ref h, .int p0] : List Value).toArray below meth c s.heap [] 0 0 Q (F0 m 39 ls []) := by
          intro x3_5 ls hl hF
          have hF := ka1 e_k39 hF
          obtain ⟨x4_6, e_x4_6, hF⟩ := nm_ex hF
          refine lv_iinc (v := x4_6) (lv' := [(4, .int x4_6), (0, .ref h), (2, .int r_1), (3, .int x3_5)]) hx hb dX2_inverseOf_39 hl (k := 3) rfl (by rw [e_x4_6]; rfl) (by decide) rfl (fun ls hl => ?_)
          refine lv_goto (tgt := 14) hx hb dX2_inverseOf_42 (by decide) ?_
          exact ih14 x3_5 x4_6 ls (lv_sub hl [1, 2, 3, 0] rfl) hF
        clear e_k39
        refine lv_icmp_ne (tgt := 39) hx hb dX2_inverseOf_33 (by decide) (fun c0 => ?_) (fun c0 => ?_)
        · have hF := if_f hF c0
          exact hk39 x3_2 ls (lv_sub hl [0, 1, 2, 3] rfl) hF
        · have hF := if_t hF c0
          refine lv_iload hx hb dX2_inverseOf_36 (lv_at hl 3 rfl) ?_
          refine lv_istore_n (lv' := [(3, .int x4_3), (0, .ref h), (2, .int r_1), (4, .int x4_3)]) hx hb dX2_inverseOf_38 rfl hl (by decide) rfl (fun ls hl => ?_)
          exact hk39 x4_3 ls (lv_sub hl [1, 2, 0, 3] rfl) hF
  exact hL14 fu (1 : Int32) (1 : Int32) ls (lv_sub hl [3, 2, 1, 0] rfl) hF
def fX2_layBasis (fu : Nat) (l_p : Int32) (l_u : Int32) (l_six : Nat → Int32) (l_w : Nat → Int32) (l_basis : Nat → Int32)  : Option ((Nat → Int32)) :=
  nm (l_u + (1 : Int32)) (fun (v_1 : Int32) => nm (v_1 - v_1 / (3 : Int32) * (3 : Int32)) (fun (v_2 : Int32) => if okI v_2 3 then nm (l_w v_2.toNatClampNeg) (fun (v_3 : Int32) => if ¬ l_p = 0 then nm (fun (s_6 : Int32) => nm (((3 : Int32) - l_u) - s_6) (fun (x2_7 : Int32) => bd1 (fX4_touchUnit 3 l_six l_w (0 : Int32) l_u) (fun (r_8 : Int32) => bd1 (fX2_inverseOf fu l_p r_8) (fun (r_9 : Int32) => bd1 (fX4_touchUnit 3 l_six l_w (0 : Int32) s_6) (fun (r_10 : Int32) => bd1 (fJ9_floorMod_7cf53 r_10 l_p) (fun (r_11 : Int32) => bd1 (fJ9_floorMod_7cf53 (r_9 * r_11) l_p) (fun (r_12 : Int32) => bd1 (fX4_touchUnit 3 l_six l_w (0 : Int32) x2_7) (fun (r_13 : Int32) => bd1 (fJ9_floorMod_7cf53 r_13 l_p) (fun (r_14 : Int32) => bd1 (fJ9_floorMod_7cf53 (r_9 * r_14) l_p) (fun (r_15 : Int32) => if okI l_u 3 then if okI s_6 3 then if okI x2_7 3 then if ¬ l_p = 0 then nm ((((l_w l_u.toNatClampNeg) + (r_12 * (l_w s_6.toNatClampNeg))) + (r_15 * (l_w x2_7.toNatClampNeg))) / l_p) (fun (x6_16 : Int32) => if okI s_6 3 then bd1 (fX2_inverseOf fu l_p (l_w s_6.toNatClampNeg)) (fun (r_17 : Int32) => if okI x2_7 3 then bd1 (fJ9_floorMod_7cf53 (r_17 * (l_w x2_7.toNatClampNeg)) l_p) (fun (r_18 : Int32) => bd1 (fJ9_floorMod_7cf53 (r_17 * x6_16) l_p) (fun (r_19 : Int32) => if okI s_6 9 then nm (upd l_basis s_6.toNatClampNeg (1 : Int32)) (fun (l_basis_20 : Nat → Int32) => if okI x2_7 9 then nm (upd l_basis_20 x2_7.toNatClampNeg r_18) (fun (l_basis_21 : Nat → Int32) => if okI l_u 9 then nm (upd l_basis_21 l_u.toNatClampNeg (((l_p * r_19) - r_12) - (r_18 * r_15))) (fun (l_basis_22 : Nat → Int32) => nm ((3 : Int32) + s_6) (fun (v_23 : Int32) => if okI v_23 9 then nm (upd l_basis_22 v_23.toNatClampNeg (0 : Int32)) (fun (l_basis_24 : Nat → Int32) => nm ((3 : Int32) + x2_7) (fun (v_25 : Int32) => if okI v_25 9 then nm (upd l_basis_24 v_25.toNatClampNeg (1 : Int32)) (fun (l_basis_26 : Nat → Int32) => nm ((3 : Int32) + l_u) (fun (v_27 : Int32) => if okI v_27 9 then nm (upd l_basis_26 v_27.toNatClampNeg (-r_15)) (fun (l_basis_28 : Nat → Int32) => nm ((6 : Int32) + s_6) (fun (v_29 : Int32) => if okI v_29 9 then nm (upd l_basis_28 v_29.toNatClampNeg (0 : Int32)) (fun (l_basis_30 : Nat → Int32) => nm ((6 : Int32) + x2_7) (fun (v_31 : Int32) => if okI v_31 9 then nm (upd l_basis_30 v_31.toNatClampNeg (0 : Int32)) (fun (l_basis_32 : Nat → Int32) => nm ((6 : Int32) + l_u) (fun (v_33 : Int32) => if okI v_33 9 then nm (upd l_basis_32 v_33.toNatClampNeg l_p) (fun (l_basis_34 : Nat → Int32) => some l_basis_34) else none)) else none)) else none)) else none)) else none)) else none)) else none) else none) else none)) else none) else none) else none else none else none else none)))))))))) (fun (k40 : (Int32) → Option ((Nat → Int32))) => if (v_3 - v_3 / l_p * l_p) = 0 then (nm (l_u + (2 : Int32)) (fun (v_4 : Int32) => (k40 (v_4 - v_4 / (3 : Int32) * (3 : Int32))))) else (nm (l_u + (1 : Int32)) (fun (v_5 : Int32) => (k40 (v_5 - v_5 / (3 : Int32) * (3 : Int32)))))) else none) else none))
def lkX2_layBasis : List Cond := [.initialized RX4, .static yX4_touchUnit, .fieldLink RX2 16 "KinForms$Lines" "w" "[I", .fieldLink RX2 48 "KinForms$Lines" "u" "I", .fieldLink RX2 25 "KinForms$Lines" "p" "I", .fieldLink RX2 7 "KinForms$Lines" "six" "[I", .fieldLink RX2 19 "KinForms$Lines" "basis" "[I"]
def vX2_layBasis : List Cond := .code yX2_layBasis cX2_layBasis 10 none :: (lkX2_layBasis ++ (wsX20 ++ (vX4_touchUnit ++ (wsV RX2 69 RX2 yX2_inverseOf vX2_inverseOf ++ (va_wsS RX2 73 yJ9_floorMod_7cf53 vJ9_floorMod_7cf53 ++ ([]))))))
theorem q_X2_layBasis : ∀ w ∈ vX2_layBasis, goodWord w = true := gd_cons rfl (gd_app (by decide +kernel) (gd_app q_wsX20 (gd_app q_X4_touchUnit (gd_app (gd_V q_X2_inverseOf) (gd_app (gd_S q_J9_floorMod_7cf53) gd_nil)))))
theorem g_X2_layBasis_X4_touchUnit : GoodIn vX2_layBasis (vX4_touchUnit) := gi_of (fun w h => List.mem_cons_of_mem _ (List.mem_append_right _ (List.mem_append_right _ (List.mem_append_left _ h)))) q_X4_touchUnit
theorem g_X2_layBasis_X2_inverseOf : GoodIn vX2_layBasis (wsV RX2 69 RX2 yX2_inverseOf vX2_inverseOf) := gi_of (fun w h => List.mem_cons_of_mem _ (List.mem_append_right _ (List.mem_append_right _ (List.mem_append_right _ (List.mem_append_left _ h))))) (gd_V q_X2_inverseOf)
theorem g_X2_layBasis_J9_floorMod_7cf53 : GoodIn vX2_layBasis (va_wsS RX2 73 yJ9_floorMod_7cf53 vJ9_floorMod_7cf53) := gi_of (fun w h => List.mem_cons_of_mem _ (List.mem_append_right _ (List.mem_append_right _ (List.mem_append_right _ (List.mem_append_right _ (List.mem_append_left _ h)))))) (gd_S q_J9_floorMod_7cf53)
abbrev rmX2_layBasis : Room := { frames := 2, cells := 0, slots := 0, locals := 46 }
set_option maxHeartbeats 4000000 in
set_option maxRecDepth 100000 in
theorem c_X2_layBasis (l : Launch) (dC : Nat → ClassId) (dI : Nat → Nat → Nat) (cI : ClassId) (h : Nat) (a : Nat → Nat) (fu : Nat) (sz : Nat) (l_found : Int32) (l_p : Int32) (l_t : Int32) (l_u : Int32) (l_six : Nat → Int32) (l_all : Nat → Int32) (l_w : Nat → Int32) (l_basis : Nat → Int32) (l_crossed : Nat → Int32)  (o_l_basis : Nat → Int32) (hF : fX2_layBasis fu l_p l_u l_six l_w l_basis = some o_l_basis) : Met l yX2_layBasis vX2_layBasis rmX2_layBasis (va_Pc [.ref h] (mPk (dC, dI) vwCl (lW cI h a l_found l_p l_t l_u l_six l_all l_w l_basis l_crossed) [(cI, .int)] sz)) (va_Qv (fun (_ : Unit) => True) (mPo (dC, dI) vwCl (lW cI h a l_found l_p l_t l_u l_six l_all l_w o_l_basis l_crossed) [(cI, .int)] (va_A (lW cI h a l_found l_p l_t l_u l_six l_all l_w l_basis l_crossed) sz)) (va_A (lW cI h a l_found l_p l_t l_u l_six l_all l_w l_basis l_crossed) sz)) 0 0 (va_A (lW cI h a l_found l_p l_t l_u l_six l_all l_w l_basis l_crossed) sz) := by
  refine Met.ofW (cc := cX2_layBasis) (maxL := 10) (ret := none) (by decide) rfl ?_
  intro p e s m args below meth c s₁ B hml hv
  obtain ⟨rfl, hsz, hP, hK, hD0, hN⟩ := hv
  have hx := B.exec
  have hb := B.bytes
  have hr := B.returns
  have hts := atoms_spec (ws := vX2_layBasis) B.pre
  have hlk : ∀ w ∈ lkX2_layBasis, w.before _ s = true := fun w h => hts w (List.mem_cons_of_mem _ (List.mem_append_left _ h))
  have hown : s.vm.findClass RX2 = some m.cls := findClass_of_methodNamed B.named
  have hlocks := B.notSynchronized
  subst hsz
  have hD := hD0.self (sz := s.heap.size)
  generalize hAe : va_A (lW cI h a l_found l_p l_t l_u l_six l_all l_w l_basis l_crossed) s.heap.size = A at hD ⊢
  have hA : ∀ q : Nat, s.heap.size ≤ q → A q := fun q h => by rw [← hAe]; exact Or.inr h
  have hS : va_S A s.heap s.heap [] := va_S.rf
  have hinX2 : ∀ w ∈ wsX20, w ∈ vX2_layBasis := fun w h => List.mem_cons_of_mem _ (List.mem_append_right _ (List.mem_append_left _ h))
  have hf_16 := hlk (.fieldLink RX2 16 "KinForms$Lines" "w" "[I") (by decide +kernel)
  have hf_48 := hlk (.fieldLink RX2 48 "KinForms$Lines" "u" "I") (by decide +kernel)
  have hf_25 := hlk (.fieldLink RX2 25 "KinForms$Lines" "p" "I") (by decide +kernel)
  have hf_7 := hlk (.fieldLink RX2 7 "KinForms$Lines" "six" "[I") (by decide +kernel)
  have hf_19 := hlk (.fieldLink RX2 19 "KinForms$Lines" "basis" "[I") (by decide +kernel)
  have hl := lv_entry ([.ref h] : List Value) (n := 10) (Nat.le_of_ble_eq_true rfl)
  rw [lg_entry_eq]
  generalize (lg_sl ([.ref h] : List Value) ++ List.replicate (10 - (lg_sl ([.ref h] : List Value)).length) Slot.unset).toArray = ls at hl ⊢
  have hl : lv_has ls 10 [(0, .ref h)] := hl
  unfold fX2_layBasis at hF
  refine W_Q (fun Q hQ => ?_)
  have hP : va_P (dC, dI) vwCl (lW cI h a l_found l_p l_t l_u l_six l_all l_w l_basis l_crossed) s.heap := hP
  refine W_HL (fun H locs eH eL => ?_)
  rw [← eH] at hP
  have hS : va_S A s.heap H locs := by rw [eH, eL]; exact hS
  refine lv_aload_n hx hb dX2_layBasis_0 rfl (lv_at hl 0 rfl) ?_
  refine va_get (D := (dC, dI)) (ci := 2) (v := .ref (a 3)) (C := RX2) (T := TX2) (N := 9) hx hb hts hinX2 hown hK hP 0 rfl rfl 2 (by decide) hf_16 (fun _ h9 => h9) rfl dX2_layBasis_1 ?_
  refine lv_aload_n hx hb dX2_layBasis_4 rfl (lv_at hl 0 rfl) ?_
  refine va_get (D := (dC, dI)) (ci := 2) (v := .int l_u) (C := RX2) (T := TX2) (N := 9) hx hb hts hinX2 hown hK hP 0 rfl rfl 8 (by decide) hf_48 (fun _ h9 => h9) rfl dX2_layBasis_5 ?_
  refine lv_iconst (v := 1) hx hb dX2_layBasis_8 (by decide) ?_
  refine lv_iadd hx hb dX2_layBasis_9 ?_
  refine lv_iconst (v := 3) hx hb dX2_layBasis_10 (by decide) ?_
  obtain ⟨v_1, e_v_1, hF⟩ := nm_ex hF
  rw [← e_v_1]
  refine lv_irem hx hb dX2_layBasis_11 (by decide) ?_
  refine lv_topi (fun v_2 e_v_2 => ?_)
  have hF := nm_at hF e_v_2
  obtain ⟨hi, hF⟩ := ck_of hF
  refine va_iald hx hb hK hP 3 0 rfl rfl hi dX2_layBasis_12 ?_
  refine lv_aload_n hx hb dX2_layBasis_13 rfl (lv_at hl 0 rfl) ?_
  refine va_get (D := (dC, dI)) (ci := 2) (v := .int l_p) (C := RX2) (T := TX2) (N := 9) hx hb hts hinX2 hown hK hP 0 rfl rfl 6 (by decide) hf_25 (fun _ h9 => h9) rfl dX2_layBasis_14 ?_
  obtain ⟨v_3, e_v_3, hF⟩ := nm_ex hF
  rw [← e_v_3]
  obtain ⟨hz, hF⟩ := ck_of hF
  refine lv_irem hx hb dX2_layBasis_17 hz ?_
  obtain ⟨k40, e_k40, hF⟩ := nm_ex hF
  have hk40 : ∀ (s_6 : Int32) (H : Heap) (locs : List Loc) (ls : Array Slot), va_P (dC, dI) vwCl (lW cI h a l_found l_p l_t l_u l_six l_all l_w l_basis l_crossed) H → va_D A (lW cI h a l_found l_p l_t l_u l_six l_all l_w l_basis l_crossed) → va_S A s.heap H locs → lv_has ls 10 [(0, .ref h)] → k40 s_6 = some o_l_basis → W p l e rmX2_layBasis s m ([.ref h] : List Value).toArray below meth c H locs 0 0 Q (F0 m 40 ls [.int s_6]) := by
    intro s_6 H locs ls hP hD hS hl hF
    have hF := ka1 e_k40 hF
    refine lv_istore_n (lv' := [(1, .int s_6), (0, .ref h)]) hx hb dX2_layBasis_40 rfl hl (by decide) rfl (fun ls hl => ?_)
    refine lv_iconst (v := 3) hx hb dX2_layBasis_41 (by decide) ?_
    refine lv_aload_n hx hb dX2_layBasis_42 rfl (lv_at hl 1 rfl) ?_
    refine va_get (D := (dC, dI)) (ci := 2) (v := .int l_u) (C := RX2) (T := TX2) (N := 9) hx hb hts hinX2 hown hK hP 0 rfl rfl 8 (by decide) hf_48 (fun _ h9 => h9) rfl dX2_layBasis_43 ?_
    refine lv_isub hx hb dX2_layBasis_46 ?_
    refine lv_iload_n hx hb dX2_layBasis_47 rfl (lv_at hl 0 rfl) ?_
    refine lv_isub hx hb dX2_layBasis_48 ?_
    refine lv_topi (fun x2_7 e_x2_7 => ?_)
    have hF := nm_at hF e_x2_7
    refine lv_istore_n (lv' := [(2, .int x2_7), (1, .int s_6), (0, .ref h)]) hx hb dX2_layBasis_49 rfl hl (by decide) rfl (fun ls hl => ?_)
    refine lv_aload_n hx hb dX2_layBasis_50 rfl (lv_at hl 2 rfl) ?_
    refine lv_aload_n hx hb dX2_layBasis_51 rfl (lv_at hl 2 rfl) ?_
    refine va_get (D := (dC, dI)) (ci := 2) (v := .ref (a 1)) (C := RX2) (T := TX2) (N := 9) hx hb hts hinX2 hown hK hP 0 rfl rfl 0 (by decide) hf_7 (fun _ h9 => h9) rfl dX2_layBasis_52 ?_
    refine lv_aload_n hx hb dX2_layBasis_55 rfl (lv_at hl 2 rfl) ?_
    refine va_get (D := (dC, dI)) (ci := 2) (v := .ref (a 3)) (C := RX2) (T := TX2) (N := 9) hx hb hts hinX2 hown hK hP 0 rfl rfl 2 (by decide) hf_16 (fun _ h9 => h9) rfl dX2_layBasis_56 ?_
    refine lv_iconst (v := 0) hx hb dX2_layBasis_59 (by decide) ?_
    refine lv_aload_n hx hb dX2_layBasis_60 rfl (lv_at hl 2 rfl) ?_
    refine va_get (D := (dC, dI)) (ci := 2) (v := .int l_u) (C := RX2) (T := TX2) (N := 9) hx hb hts hinX2 hown hK hP 0 rfl rfl 8 (by decide) hf_48 (fun _ h9 => h9) rfl dX2_layBasis_61 ?_
    obtain ⟨r_8, hc, hF⟩ := bd1_of hF
    refine rc_i (va_runSN (As := [.ref (a 1), .ref (a 3), .int (0 : Int32), .int l_u]) (rest := [.ref h]) ⟨hx, hb, hml, hown, hts⟩ (c_X4_touchUnit l dC dI cI (a 1) (a 3) 3 l_six l_w (0 : Int32) l_u r_8 hc) ⟨va_cnB 4 hts g_X2_layBasis_X4_touchUnit rfl rfl rfl (hN.2 (RX2, 51, yX4_touchUnit, "KinForms") (by decide +kernel)) (hlk (.initialized RX4) (by decide +kernel)) (by decide +kernel) ⟨Nat.le_of_ble_eq_true rfl, Nat.le_of_ble_eq_true rfl⟩, hlk (.static yX4_touchUnit) (by decide +kernel), trivial⟩ ⟨rPk_blind, rPk_at hK (hP.sub (ws' := (sW2 cI (a 1) (a 3) 3 l_six l_w)) [1, 3] rfl) hN⟩ rfl rfl hl.1 rfl (lv_room (Nat.le_of_ble_eq_true rfl)) dX2_layBasis_64 ⟨Nat.zero_le _, Nat.zero_le _⟩) ?_
    obtain ⟨r_9, hc, hF⟩ := bd1_of hF
    refine rc_i (va_runV (As := [.int r_8]) (rest := []) ⟨hx, hb, hml, hown, hts⟩ (c_X2_inverseOf l dC dI cI h a fu l_found l_p l_t l_u l_six l_all l_w l_basis l_crossed r_8 r_9 hc) (cwV 1 hts g_X2_layBasis_X2_inverseOf rfl rfl rfl (by decide +kernel) ⟨Nat.le_of_ble_eq_true rfl, Nat.le_of_ble_eq_true rfl⟩) ⟨rPk_blind, va_recv hK hP (ci := 2) (q0 := 0) rfl rfl, rPk_at hK hP hN⟩ rfl rfl hl.1 rfl (lv_room (Nat.le_of_ble_eq_true rfl)) dX2_layBasis_67 ⟨Nat.zero_le _, Nat.zero_le _⟩) ?_
    refine lv_istore_n (lv' := [(3, .int r_9), (2, .int x2_7), (1, .int s_6), (0, .ref h)]) hx hb dX2_layBasis_70 rfl hl (by decide) rfl (fun ls hl => ?_)
    refine lv_iload_n hx hb dX2_layBasis_71 rfl (lv_at hl 0 rfl) ?_
    refine lv_aload_n hx hb dX2_layBasis_72 rfl (lv_at hl 3 rfl) ?_
    refine va_get (D := (dC, dI)) (ci := 2) (v := .ref (a 1)) (C := RX2) (T := TX2) (N := 9) hx hb hts hinX2 hown hK hP 0 rfl rfl 0 (by decide) hf_7 (fun _ h9 => h9) rfl dX2_layBasis_73 ?_
    refine lv_aload_n hx hb dX2_layBasis_76 rfl (lv_at hl 3 rfl) ?_
    refine va_get (D := (dC, dI)) (ci := 2) (v := .ref (a 3)) (C := RX2) (T := TX2) (N := 9) hx hb hts hinX2 hown hK hP 0 rfl rfl 2 (by decide) hf_16 (fun _ h9 => h9) rfl dX2_layBasis_77 ?_
    refine lv_iconst (v := 0) hx hb dX2_layBasis_80 (by decide) ?_
    refine lv_iload_n hx hb dX2_layBasis_81 rfl (lv_at hl 2 rfl) ?_
    obtain ⟨r_10, hc, hF⟩ := bd1_of hF
    refine rc_i (va_runSN (As := [.ref (a 1), .ref (a 3), .int (0 : Int32), .int s_6]) (rest := [.int r_9]) ⟨hx, hb, hml, hown, hts⟩ (c_X4_touchUnit l dC dI cI (a 1) (a 3) 3 l_six l_w (0 : Int32) s_6 r_10 hc) ⟨va_cnB 4 hts g_X2_layBasis_X4_touchUnit rfl rfl rfl (hN.2 (RX2, 51, yX4_touchUnit, "KinForms") (by decide +kernel)) (hlk (.initialized RX4) (by decide +kernel)) (by decide +kernel) ⟨Nat.le_of_ble_eq_true rfl, Nat.le_of_ble_eq_true rfl⟩, hlk (.static yX4_touchUnit) (by decide +kernel), trivial⟩ ⟨rPk_blind, rPk_at hK (hP.sub (ws' := (sW2 cI (a 1) (a 3) 3 l_six l_w)) [1, 3] rfl) hN⟩ rfl rfl hl.1 rfl (lv_room (Nat.le_of_ble_eq_true rfl)) dX2_layBasis_82 ⟨Nat.zero_le _, Nat.zero_le _⟩) ?_
    refine lv_aload_n hx hb dX2_layBasis_85 rfl (lv_at hl 3 rfl) ?_
    refine va_get (D := (dC, dI)) (ci := 2) (v := .int l_p) (C := RX2) (T := TX2) (N := 9) hx hb hts hinX2 hown hK hP 0 rfl rfl 6 (by decide) hf_25 (fun _ h9 => h9) rfl dX2_layBasis_86 ?_
    obtain ⟨r_11, hc, hF⟩ := bd1_of hF
    refine rc_i (va_runS (As := [.int r_10, .int l_p]) (rest := [.int r_9]) ⟨hx, hb, hml, hown, hts⟩ (c_J9_floorMod_7cf53 l r_10 l_p r_11 hc) (va_cwS 2 hts g_X2_layBasis_J9_floorMod_7cf53 rfl rfl rfl (by decide +kernel) ⟨Nat.le_of_ble_eq_true rfl, Nat.le_of_ble_eq_true rfl⟩) ⟨tPc_blind, tPc_at⟩ rfl rfl hl.1 rfl (lv_room (Nat.le_of_ble_eq_true rfl)) dX2_layBasis_89 ⟨Nat.zero_le _, Nat.zero_le _⟩) ?_
    refine lv_imul hx hb dX2_layBasis_92 ?_
    refine lv_aload_n hx hb dX2_layBasis_93 rfl (lv_at hl 3 rfl) ?_
    refine va_get (D := (dC, dI)) (ci := 2) (v := .int l_p) (C := RX2) (T := TX2) (N := 9) hx hb hts hinX2 hown hK hP 0 rfl rfl 6 (by decide) hf_25 (fun _ h9 => h9) rfl dX2_layBasis_94 ?_
    obtain ⟨r_12, hc, hF⟩ := bd1_of hF
    refine rc_i (va_runS (As := [.int (r_9 * r_11), .int l_p]) (rest := []) ⟨hx, hb, hml, hown, hts⟩ (c_J9_floorMod_7cf53 l (r_9 * r_11) l_p r_12 hc) (va_cwS 2 hts g_X2_layBasis_J9_floorMod_7cf53 rfl rfl rfl (by decide +kernel) ⟨Nat.le_of_ble_eq_true rfl, Nat.le_of_ble_eq_true rfl⟩) ⟨tPc_blind, tPc_at⟩ rfl rfl hl.1 rfl (lv_room (Nat.le_of_ble_eq_true rfl)) dX2_layBasis_97 ⟨Nat.zero_le _, Nat.zero_le _⟩) ?_
    refine lv_istore (lv' := [(4, .int r_12), (3, .int r_9), (2, .int x2_7), (1, .int s_6), (0, .ref h)]) hx hb dX2_layBasis_100 hl (by decide) rfl (fun ls hl => ?_)
    refine lv_iload_n hx hb dX2_layBasis_102 rfl (lv_at hl 1 rfl) ?_
    refine lv_aload_n hx hb dX2_layBasis_103 rfl (lv_at hl 4 rfl) ?_
    refine va_get (D := (dC, dI)) (ci := 2) (v := .ref (a 1)) (C := RX2) (T := TX2) (N := 9) hx hb hts hinX2 hown hK hP 0 rfl rfl 0 (by decide) hf_7 (fun _ h9 => h9) rfl dX2_layBasis_104 ?_
    refine lv_aload_n hx hb dX2_layBasis_107 rfl (lv_at hl 4 rfl) ?_
    refine va_get (D := (dC, dI)) (ci := 2) (v := .ref (a 3)) (C := RX2) (T := TX2) (N := 9) hx hb hts hinX2 hown hK hP 0 rfl rfl 2 (by decide) hf_16 (fun _ h9 => h9) rfl dX2_layBasis_108 ?_
    refine lv_iconst (v := 0) hx hb dX2_layBasis_111 (by decide) ?_
    refine lv_iload_n hx hb dX2_layBasis_112 rfl (lv_at hl 2 rfl) ?_
    obtain ⟨r_13, hc, hF⟩ := bd1_of hF
    refine rc_i (va_runSN (As := [.ref (a 1), .ref (a 3), .int (0 : Int32), .int x2_7]) (rest := [.int r_9]) ⟨hx, hb, hml, hown, hts⟩ (c_X4_touchUnit l dC dI cI (a 1) (a 3) 3 l_six l_w (0 : Int32) x2_7 r_13 hc) ⟨va_cnB 4 hts g_X2_layBasis_X4_touchUnit rfl rfl rfl (hN.2 (RX2, 51, yX4_touchUnit, "KinForms") (by decide +kernel)) (hlk (.initialized RX4) (by decide +kernel)) (by decide +kernel) ⟨Nat.le_of_ble_eq_true rfl, Nat.le_of_ble_eq_true rfl⟩, hlk (.static yX4_touchUnit) (by decide +kernel), trivial⟩ ⟨rPk_blind, rPk_at hK (hP.sub (ws' := (sW2 cI (a 1) (a 3) 3 l_six l_w)) [1, 3] rfl) hN⟩ rfl rfl hl.1 rfl (lv_room (Nat.le_of_ble_eq_true rfl)) dX2_layBasis_113 ⟨Nat.zero_le _, Nat.zero_le _⟩) ?_
    refine lv_aload_n hx hb dX2_layBasis_116 rfl (lv_at hl 4 rfl) ?_
    refine va_get (D := (dC, dI)) (ci := 2) (v := .int l_p) (C := RX2) (T := TX2) (N := 9) hx hb hts hinX2 hown hK hP 0 rfl rfl 6 (by decide) hf_25 (fun _ h9 => h9) rfl dX2_layBasis_117 ?_
    obtain ⟨r_14, hc, hF⟩ := bd1_of hF
    refine rc_i (va_runS (As := [.int r_13, .int l_p]) (rest := [.int r_9]) ⟨hx, hb, hml, hown, hts⟩ (c_J9_floorMod_7cf53 l r_13 l_p r_14 hc) (va_cwS 2 hts g_X2_layBasis_J9_floorMod_7cf53 rfl rfl rfl (by decide +kernel) ⟨Nat.le_of_ble_eq_true rfl, Nat.le_of_ble_eq_true rfl⟩) ⟨tPc_blind, tPc_at⟩ rfl rfl hl.1 rfl (lv_room (Nat.le_of_ble_eq_true rfl)) dX2_layBasis_120 ⟨Nat.zero_le _, Nat.zero_le _⟩) ?_
    refine lv_imul hx hb dX2_layBasis_123 ?_
    refine lv_aload_n hx hb dX2_layBasis_124 rfl (lv_at hl 4 rfl) ?_
    refine va_get (D := (dC, dI)) (ci := 2) (v := .int l_p) (C := RX2) (T := TX2) (N := 9) hx hb hts hinX2 hown hK hP 0 rfl rfl 6 (by decide) hf_25 (fun _ h9 => h9) rfl dX2_layBasis_125 ?_
    obtain ⟨r_15, hc, hF⟩ := bd1_of hF
    refine rc_i (va_runS (As := [.int (r_9 * r_14), .int l_p]) (rest := []) ⟨hx, hb, hml, hown, hts⟩ (c_J9_floorMod_7cf53 l (r_9 * r_14) l_p r_15 hc) (va_cwS 2 hts g_X2_layBasis_J9_floorMod_7cf53 rfl rfl rfl (by decide +kernel) ⟨Nat.le_of_ble_eq_true rfl, Nat.le_of_ble_eq_true rfl⟩) ⟨tPc_blind, tPc_at⟩ rfl rfl hl.1 rfl (lv_room (Nat.le_of_ble_eq_true rfl)) dX2_layBasis_128 ⟨Nat.zero_le _, Nat.zero_le _⟩) ?_
    refine lv_istore (lv' := [(5, .int r_15), (4, .int r_12), (3, .int r_9), (2, .int x2_7), (1, .int s_6), (0, .ref h)]) hx hb dX2_layBasis_131 hl (by decide) rfl (fun ls hl => ?_)
    refine lv_aload_n hx hb dX2_layBasis_133 rfl (lv_at hl 5 rfl) ?_
    refine va_get (D := (dC, dI)) (ci := 2) (v := .ref (a 3)) (C := RX2) (T := TX2) (N := 9) hx hb hts hinX2 hown hK hP 0 rfl rfl 2 (by decide) hf_16 (fun _ h9 => h9) rfl dX2_layBasis_134 ?_
    refine lv_aload_n hx hb dX2_layBasis_137 rfl (lv_at hl 5 rfl) ?_
    refine va_get (D := (dC, dI)) (ci := 2) (v := .int l_u) (C := RX2) (T := TX2) (N := 9) hx hb hts hinX2 hown hK hP 0 rfl rfl 8 (by decide) hf_48 (fun _ h9 => h9) rfl dX2_layBasis_138 ?_
    obtain ⟨hi, hF⟩ := ck_of hF
    refine va_iald hx hb hK hP 3 0 rfl rfl hi dX2_layBasis_141 ?_
    refine lv_iload hx hb dX2_layBasis_142 (lv_at hl 1 rfl) ?_
    refine lv_aload_n hx hb dX2_layBasis_144 rfl (lv_at hl 5 rfl) ?_
    refine va_get (D := (dC, dI)) (ci := 2) (v := .ref (a 3)) (C := RX2) (T := TX2) (N := 9) hx hb hts hinX2 hown hK hP 0 rfl rfl 2 (by decide) hf_16 (fun _ h9 => h9) rfl dX2_layBasis_145 ?_
    refine lv_iload_n hx hb dX2_layBasis_148 rfl (lv_at hl 4 rfl) ?_
    obtain ⟨hi, hF⟩ := ck_of hF
    refine va_iald hx hb hK hP 3 0 rfl rfl hi dX2_layBasis_149 ?_
    refine lv_imul hx hb dX2_layBasis_150 ?_
    refine lv_iadd hx hb dX2_layBasis_151 ?_
    refine lv_iload hx hb dX2_layBasis_152 (lv_at hl 0 rfl) ?_
    refine lv_aload_n hx hb dX2_layBasis_154 rfl (lv_at hl 5 rfl) ?_
    refine va_get (D := (dC, dI)) (ci := 2) (v := .ref (a 3)) (C := RX2) (T := TX2) (N := 9) hx hb hts hinX2 hown hK hP 0 rfl rfl 2 (by decide) hf_16 (fun _ h9 => h9) rfl dX2_layBasis_155 ?_
    refine lv_iload_n hx hb dX2_layBasis_158 rfl (lv_at hl 3 rfl) ?_
    obtain ⟨hi, hF⟩ := ck_of hF
    refine va_iald hx hb hK hP 3 0 rfl rfl hi dX2_layBasis_159 ?_
    refine lv_imul hx hb dX2_layBasis_160 ?_
    refine lv_iadd hx hb dX2_layBasis_161 ?_
    refine lv_aload_n hx hb dX2_layBasis_162 rfl (lv_at hl 5 rfl) ?_
    refine va_get (D := (dC, dI)) (ci := 2) (v := .int l_p) (C := RX2) (T := TX2) (N := 9) hx hb hts hinX2 hown hK hP 0 rfl rfl 6 (by decide) hf_25 (fun _ h9 => h9) rfl dX2_layBasis_163 ?_
    obtain ⟨hz, hF⟩ := ck_of hF
    refine lv_idiv hx hb dX2_layBasis_166 hz ?_
    refine lv_topi (fun x6_16 e_x6_16 => ?_)
    have hF := nm_at hF e_x6_16
    refine lv_istore (lv' := [(6, .int x6_16), (5, .int r_15), (4, .int r_12), (3, .int r_9), (2, .int x2_7), (1, .int s_6), (0, .ref h)]) hx hb dX2_layBasis_167 hl (by decide) rfl (fun ls hl => ?_)
    refine lv_aload_n hx hb dX2_layBasis_169 rfl (lv_at hl 6 rfl) ?_
    refine lv_aload_n hx hb dX2_layBasis_170 rfl (lv_at hl 6 rfl) ?_
    refine va_get (D := (dC, dI)) (ci := 2) (v := .ref (a 3)) (C := RX2) (T := TX2) (N := 9) hx hb hts hinX2 hown hK hP 0 rfl rfl 2 (by decide) hf_16 (fun _ h9 => h9) rfl dX2_layBasis_171 ?_
    refine lv_iload_n hx hb dX2_layBasis_174 rfl (lv_at hl 5 rfl) ?_
    obtain ⟨hi, hF⟩ := ck_of hF
    refine va_iald hx hb hK hP 3 0 rfl rfl hi dX2_layBasis_175 ?_
    obtain ⟨r_17, hc, hF⟩ := bd1_of hF
    refine rc_i (va_runV (As := [.int (l_w s_6.toNatClampNeg)]) (rest := []) ⟨hx, hb, hml, hown, hts⟩ (c_X2_inverseOf l dC dI cI h a fu l_found l_p l_t l_u l_six l_all l_w l_basis l_crossed (l_w s_6.toNatClampNeg) r_17 hc) (cwV 1 hts g_X2_layBasis_X2_inverseOf rfl rfl rfl (by decide +kernel) ⟨Nat.le_of_ble_eq_true rfl, Nat.le_of_ble_eq_true rfl⟩) ⟨rPk_blind, va_recv hK hP (ci := 2) (q0 := 0) rfl rfl, rPk_at hK hP hN⟩ rfl rfl hl.1 rfl (lv_room (Nat.le_of_ble_eq_true rfl)) dX2_layBasis_176 ⟨Nat.zero_le _, Nat.zero_le _⟩) ?_
    refine lv_istore (lv' := [(7, .int r_17), (6, .int x6_16), (5, .int r_15), (4, .int r_12), (3, .int r_9), (2, .int x2_7), (1, .int s_6), (0, .ref h)]) hx hb dX2_layBasis_179 hl (by decide) rfl (fun ls hl => ?_)
    refine lv_iload hx hb dX2_layBasis_181 (lv_at hl 0 rfl) ?_
    refine lv_aload_n hx hb dX2_layBasis_183 rfl (lv_at hl 7 rfl) ?_
    refine va_get (D := (dC, dI)) (ci := 2) (v := .ref (a 3)) (C := RX2) (T := TX2) (N := 9) hx hb hts hinX2 hown hK hP 0 rfl rfl 2 (by decide) hf_16 (fun _ h9 => h9) rfl dX2_layBasis_184 ?_
    refine lv_iload_n hx hb dX2_layBasis_187 rfl (lv_at hl 5 rfl) ?_
    obtain ⟨hi, hF⟩ := ck_of hF
    refine va_iald hx hb hK hP 3 0 rfl rfl hi dX2_layBasis_188 ?_
    refine lv_imul hx hb dX2_layBasis_189 ?_
    refine lv_aload_n hx hb dX2_layBasis_190 rfl (lv_at hl 7 rfl) ?_
    refine va_get (D := (dC, dI)) (ci := 2) (v := .int l_p) (C := RX2) (T := TX2) (N := 9) hx hb hts hinX2 hown hK hP 0 rfl rfl 6 (by decide) hf_25 (fun _ h9 => h9) rfl dX2_layBasis_191 ?_
    obtain ⟨r_18, hc, hF⟩ := bd1_of hF
    refine rc_i (va_runS (As := [.int (r_17 * (l_w x2_7.toNatClampNeg)), .int l_p]) (rest := []) ⟨hx, hb, hml, hown, hts⟩ (c_J9_floorMod_7cf53 l (r_17 * (l_w x2_7.toNatClampNeg)) l_p r_18 hc) (va_cwS 2 hts g_X2_layBasis_J9_floorMod_7cf53 rfl rfl rfl (by decide +kernel) ⟨Nat.le_of_ble_eq_true rfl, Nat.le_of_ble_eq_true rfl⟩) ⟨tPc_blind, tPc_at⟩ rfl rfl hl.1 rfl (lv_room (Nat.le_of_ble_eq_true rfl)) dX2_layBasis_194 ⟨Nat.zero_le _, Nat.zero_le _⟩) ?_
    refine lv_istore (lv' := [(8, .int r_18), (7, .int r_17), (6, .int x6_16), (5, .int r_15), (4, .int r_12), (3, .int r_9), (2, .int x2_7), (1, .int s_6), (0, .ref h)]) hx hb dX2_layBasis_197 hl (by decide) rfl (fun ls hl => ?_)
    refine lv_iload hx hb dX2_layBasis_199 (lv_at hl 1 rfl) ?_
    refine lv_iload hx hb dX2_layBasis_201 (lv_at hl 2 rfl) ?_
    refine lv_imul hx hb dX2_layBasis_203 ?_
    refine lv_aload_n hx hb dX2_layBasis_204 rfl (lv_at hl 8 rfl) ?_
    refine va_get (D := (dC, dI)) (ci := 2) (v := .int l_p) (C := RX2) (T := TX2) (N := 9) hx hb hts hinX2 hown hK hP 0 rfl rfl 6 (by decide) hf_25 (fun _ h9 => h9) rfl dX2_layBasis_205 ?_
    obtain ⟨r_19, hc, hF⟩ := bd1_of hF
    refine rc_i (va_runS (As := [.int (r_17 * x6_16), .int l_p]) (rest := []) ⟨hx, hb, hml, hown, hts⟩ (c_J9_floorMod_7cf53 l (r_17 * x6_16) l_p r_19 hc) (va_cwS 2 hts g_X2_layBasis_J9_floorMod_7cf53 rfl rfl rfl (by decide +kernel) ⟨Nat.le_of_ble_eq_true rfl, Nat.le_of_ble_eq_true rfl⟩) ⟨tPc_blind, tPc_at⟩ rfl rfl hl.1 rfl (lv_room (Nat.le_of_ble_eq_true rfl)) dX2_layBasis_208 ⟨Nat.zero_le _, Nat.zero_le _⟩) ?_
    refine lv_istore (lv' := [(9, .int r_19), (8, .int r_18), (7, .int r_17), (6, .int x6_16), (5, .int r_15), (4, .int r_12), (3, .int r_9), (2, .int x2_7), (1, .int s_6), (0, .ref h)]) hx hb dX2_layBasis_211 hl (by decide) rfl (fun ls hl => ?_)
    refine lv_aload_n hx hb dX2_layBasis_213 rfl (lv_at hl 9 rfl) ?_
    refine va_get (D := (dC, dI)) (ci := 2) (v := .ref (a 4)) (C := RX2) (T := TX2) (N := 9) hx hb hts hinX2 hown hK hP 0 rfl rfl 3 (by decide) hf_19 (fun _ h9 => h9) rfl dX2_layBasis_214 ?_
    refine lv_iload_n hx hb dX2_layBasis_217 rfl (lv_at hl 8 rfl) ?_
    refine lv_iconst (v := 1) hx hb dX2_layBasis_218 (by decide) ?_
    obtain ⟨hi, hF⟩ := ck_of hF
    obtain ⟨l_basis_20, e_l_basis_20, hF⟩ := nm_ex hF
    refine kc_iast (j := s_6.toNatClampNeg) (g := l_basis_20) hx hb hK hP hD hS 4 0 rfl rfl rfl hi dX2_layBasis_219 e_l_basis_20 (fun H locs hP hD hS => ?_)
    have hP : va_P (dC, dI) vwCl (lW cI h a l_found l_p l_t l_u l_six l_all l_w l_basis_20 l_crossed) H := hP
    have hD : va_D A (lW cI h a l_found l_p l_t l_u l_six l_all l_w l_basis_20 l_crossed) := hD
    refine lv_aload_n hx hb dX2_layBasis_220 rfl (lv_at hl 9 rfl) ?_
    refine va_get (D := (dC, dI)) (ci := 2) (v := .ref (a 4)) (C := RX2) (T := TX2) (N := 9) hx hb hts hinX2 hown hK hP 0 rfl rfl 3 (by decide) hf_19 (fun _ h9 => h9) rfl dX2_layBasis_221 ?_
    refine lv_iload_n hx hb dX2_layBasis_224 rfl (lv_at hl 7 rfl) ?_
    refine lv_iload hx hb dX2_layBasis_225 (lv_at hl 1 rfl) ?_
    obtain ⟨hi, hF⟩ := ck_of hF
    obtain ⟨l_basis_21, e_l_basis_21, hF⟩ := nm_ex hF
    refine kc_iast (j := x2_7.toNatClampNeg) (g := l_basis_21) hx hb hK hP hD hS 4 0 rfl rfl rfl hi dX2_layBasis_227 e_l_basis_21 (fun H locs hP hD hS => ?_)
    have hP : va_P (dC, dI) vwCl (lW cI h a l_found l_p l_t l_u l_six l_all l_w l_basis_21 l_crossed) H := hP
    have hD : va_D A (lW cI h a l_found l_p l_t l_u l_six l_all l_w l_basis_21 l_crossed) := hD
    refine lv_aload_n hx hb dX2_layBasis_228 rfl (lv_at hl 9 rfl) ?_
    refine va_get (D := (dC, dI)) (ci := 2) (v := .ref (a 4)) (C := RX2) (T := TX2) (N := 9) hx hb hts hinX2 hown hK hP 0 rfl rfl 3 (by decide) hf_19 (fun _ h9 => h9) rfl dX2_layBasis_229 ?_
    refine lv_aload_n hx hb dX2_layBasis_232 rfl (lv_at hl 9 rfl) ?_
    refine va_get (D := (dC, dI)) (ci := 2) (v := .int l_u) (C := RX2) (T := TX2) (N := 9) hx hb hts hinX2 hown hK hP 0 rfl rfl 8 (by decide) hf_48 (fun _ h9 => h9) rfl dX2_layBasis_233 ?_
    refine lv_aload_n hx hb dX2_layBasis_236 rfl (lv_at hl 9 rfl) ?_
    refine va_get (D := (dC, dI)) (ci := 2) (v := .int l_p) (C := RX2) (T := TX2) (N := 9) hx hb hts hinX2 hown hK hP 0 rfl rfl 6 (by decide) hf_25 (fun _ h9 => h9) rfl dX2_layBasis_237 ?_
    refine lv_iload hx hb dX2_layBasis_240 (lv_at hl 0 rfl) ?_
    refine lv_imul hx hb dX2_layBasis_242 ?_
    refine lv_iload hx hb dX2_layBasis_243 (lv_at hl 5 rfl) ?_
    refine lv_isub hx hb dX2_layBasis_245 ?_
    refine lv_iload hx hb dX2_layBasis_246 (lv_at hl 1 rfl) ?_
    refine lv_iload hx hb dX2_layBasis_248 (lv_at hl 4 rfl) ?_
    refine lv_imul hx hb dX2_layBasis_250 ?_
    refine lv_isub hx hb dX2_layBasis_251 ?_
    obtain ⟨hi, hF⟩ := ck_of hF
    obtain ⟨l_basis_22, e_l_basis_22, hF⟩ := nm_ex hF
    refine kc_iast (j := l_u.toNatClampNeg) (g := l_basis_22) hx hb hK hP hD hS 4 0 rfl rfl rfl hi dX2_layBasis_252 e_l_basis_22 (fun H locs hP hD hS => ?_)
    have hP : va_P (dC, dI) vwCl (lW cI h a l_found l_p l_t l_u l_six l_all l_w l_basis_22 l_crossed) H := hP
    have hD : va_D A (lW cI h a l_found l_p l_t l_u l_six l_all l_w l_basis_22 l_crossed) := hD
    refine lv_aload_n hx hb dX2_layBasis_253 rfl (lv_at hl 9 rfl) ?_
    refine va_get (D := (dC, dI)) (ci := 2) (v := .ref (a 4)) (C := RX2) (T := TX2) (N := 9) hx hb hts hinX2 hown hK hP 0 rfl rfl 3 (by decide) hf_19 (fun _ h9 => h9) rfl dX2_layBasis_254 ?_
    refine lv_iconst (v := 3) hx hb dX2_layBasis_257 (by decide) ?_
    refine lv_iload_n hx hb dX2_layBasis_258 rfl (lv_at hl 8 rfl) ?_
    refine lv_iadd hx hb dX2_layBasis_259 ?_
    refine lv_iconst (v := 0) hx hb dX2_layBasis_260 (by decide) ?_
    obtain ⟨v_23, e_v_23, hF⟩ := nm_ex hF
    rw [← e_v_23]
    obtain ⟨hi, hF⟩ := ck_of hF
    obtain ⟨l_basis_24, e_l_basis_24, hF⟩ := nm_ex hF
    refine kc_iast (j := v_23.toNatClampNeg) (g := l_basis_24) hx hb hK hP hD hS 4 0 rfl rfl rfl hi dX2_layBasis_261 e_l_basis_24 (fun H locs hP hD hS => ?_)
    have hP : va_P (dC, dI) vwCl (lW cI h a l_found l_p l_t l_u l_six l_all l_w l_basis_24 l_crossed) H := hP
    have hD : va_D A (lW cI h a l_found l_p l_t l_u l_six l_all l_w l_basis_24 l_crossed) := hD
    refine lv_aload_n hx hb dX2_layBasis_262 rfl (lv_at hl 9 rfl) ?_
    refine va_get (D := (dC, dI)) (ci := 2) (v := .ref (a 4)) (C := RX2) (T := TX2) (N := 9) hx hb hts hinX2 hown hK hP 0 rfl rfl 3 (by decide) hf_19 (fun _ h9 => h9) rfl dX2_layBasis_263 ?_
    refine lv_iconst (v := 3) hx hb dX2_layBasis_266 (by decide) ?_
    refine lv_iload_n hx hb dX2_layBasis_267 rfl (lv_at hl 7 rfl) ?_
    refine lv_iadd hx hb dX2_layBasis_268 ?_
    refine lv_iconst (v := 1) hx hb dX2_layBasis_269 (by decide) ?_
    obtain ⟨v_25, e_v_25, hF⟩ := nm_ex hF
    rw [← e_v_25]
    obtain ⟨hi, hF⟩ := ck_of hF
    obtain ⟨l_basis_26, e_l_basis_26, hF⟩ := nm_ex hF
    refine kc_iast (j := v_25.toNatClampNeg) (g := l_basis_26) hx hb hK hP hD hS 4 0 rfl rfl rfl hi dX2_layBasis_270 e_l_basis_26 (fun H locs hP hD hS => ?_)
    have hP : va_P (dC, dI) vwCl (lW cI h a l_found l_p l_t l_u l_six l_all l_w l_basis_26 l_crossed) H := hP
    have hD : va_D A (lW cI h a l_found l_p l_t l_u l_six l_all l_w l_basis_26 l_crossed) := hD
    refine lv_aload_n hx hb dX2_layBasis_271 rfl (lv_at hl 9 rfl) ?_
    refine va_get (D := (dC, dI)) (ci := 2) (v := .ref (a 4)) (C := RX2) (T := TX2) (N := 9) hx hb hts hinX2 hown hK hP 0 rfl rfl 3 (by decide) hf_19 (fun _ h9 => h9) rfl dX2_layBasis_272 ?_
    refine lv_iconst (v := 3) hx hb dX2_layBasis_275 (by decide) ?_
    refine lv_aload_n hx hb dX2_layBasis_276 rfl (lv_at hl 9 rfl) ?_
    refine va_get (D := (dC, dI)) (ci := 2) (v := .int l_u) (C := RX2) (T := TX2) (N := 9) hx hb hts hinX2 hown hK hP 0 rfl rfl 8 (by decide) hf_48 (fun _ h9 => h9) rfl dX2_layBasis_277 ?_
    refine lv_iadd hx hb dX2_layBasis_280 ?_
    refine lv_iload hx hb dX2_layBasis_281 (lv_at hl 4 rfl) ?_
    refine lv_ineg hx hb dX2_layBasis_283 ?_
    obtain ⟨v_27, e_v_27, hF⟩ := nm_ex hF
    rw [← e_v_27]
    obtain ⟨hi, hF⟩ := ck_of hF
    obtain ⟨l_basis_28, e_l_basis_28, hF⟩ := nm_ex hF
    refine kc_iast (j := v_27.toNatClampNeg) (g := l_basis_28) hx hb hK hP hD hS 4 0 rfl rfl rfl hi dX2_layBasis_284 e_l_basis_28 (fun H locs hP hD hS => ?_)
    have hP : va_P (dC, dI) vwCl (lW cI h a l_found l_p l_t l_u l_six l_all l_w l_basis_28 l_crossed) H := hP
    have hD : va_D A (lW cI h a l_found l_p l_t l_u l_six l_all l_w l_basis_28 l_crossed) := hD
    refine lv_aload_n hx hb dX2_layBasis_285 rfl (lv_at hl 9 rfl) ?_
    refine va_get (D := (dC, dI)) (ci := 2) (v := .ref (a 4)) (C := RX2) (T := TX2) (N := 9) hx hb hts hinX2 hown hK hP 0 rfl rfl 3 (by decide) hf_19 (fun _ h9 => h9) rfl dX2_layBasis_286 ?_
    refine lv_bipush (v := (6)) hx hb dX2_layBasis_289 (by decide) ?_
    refine lv_iload_n hx hb dX2_layBasis_291 rfl (lv_at hl 8 rfl) ?_
    refine lv_iadd hx hb dX2_layBasis_292 ?_
    refine lv_iconst (v := 0) hx hb dX2_layBasis_293 (by decide) ?_
    obtain ⟨v_29, e_v_29, hF⟩ := nm_ex hF
    rw [← e_v_29]
    obtain ⟨hi, hF⟩ := ck_of hF
    obtain ⟨l_basis_30, e_l_basis_30, hF⟩ := nm_ex hF
    refine kc_iast (j := v_29.toNatClampNeg) (g := l_basis_30) hx hb hK hP hD hS 4 0 rfl rfl rfl hi dX2_layBasis_294 e_l_basis_30 (fun H locs hP hD hS => ?_)
    have hP : va_P (dC, dI) vwCl (lW cI h a l_found l_p l_t l_u l_six l_all l_w l_basis_30 l_crossed) H := hP
    have hD : va_D A (lW cI h a l_found l_p l_t l_u l_six l_all l_w l_basis_30 l_crossed) := hD
    refine lv_aload_n hx hb dX2_layBasis_295 rfl (lv_at hl 9 rfl) ?_
    refine va_get (D := (dC, dI)) (ci := 2) (v := .ref (a 4)) (C := RX2) (T := TX2) (N := 9) hx hb hts hinX2 hown hK hP 0 rfl rfl 3 (by decide) hf_19 (fun _ h9 => h9) rfl dX2_layBasis_296 ?_
    refine lv_bipush (v := (6)) hx hb dX2_layBasis_299 (by decide) ?_
    refine lv_iload_n hx hb dX2_layBasis_301 rfl (lv_at hl 7 rfl) ?_
    refine lv_iadd hx hb dX2_layBasis_302 ?_
    refine lv_iconst (v := 0) hx hb dX2_layBasis_303 (by decide) ?_
    obtain ⟨v_31, e_v_31, hF⟩ := nm_ex hF
    rw [← e_v_31]
    obtain ⟨hi, hF⟩ := ck_of hF
    obtain ⟨l_basis_32, e_l_basis_32, hF⟩ := nm_ex hF
    refine kc_iast (j := v_31.toNatClampNeg) (g := l_basis_32) hx hb hK hP hD hS 4 0 rfl rfl rfl hi dX2_layBasis_304 e_l_basis_32 (fun H locs hP hD hS => ?_)
    have hP : va_P (dC, dI) vwCl (lW cI h a l_found l_p l_t l_u l_six l_all l_w l_basis_32 l_crossed) H := hP
    have hD : va_D A (lW cI h a l_found l_p l_t l_u l_six l_all l_w l_basis_32 l_crossed) := hD
    refine lv_aload_n hx hb dX2_layBasis_305 rfl (lv_at hl 9 rfl) ?_
    refine va_get (D := (dC, dI)) (ci := 2) (v := .ref (a 4)) (C := RX2) (T := TX2) (N := 9) hx hb hts hinX2 hown hK hP 0 rfl rfl 3 (by decide) hf_19 (fun _ h9 => h9) rfl dX2_layBasis_306 ?_
    refine lv_bipush (v := (6)) hx hb dX2_layBasis_309 (by decide) ?_
    refine lv_aload_n hx hb dX2_layBasis_311 rfl (lv_at hl 9 rfl) ?_
    refine va_get (D := (dC, dI)) (ci := 2) (v := .int l_u) (C := RX2) (T := TX2) (N := 9) hx hb hts hinX2 hown hK hP 0 rfl rfl 8 (by decide) hf_48 (fun _ h9 => h9) rfl dX2_layBasis_312 ?_
    refine lv_iadd hx hb dX2_layBasis_315 ?_
    refine lv_aload_n hx hb dX2_layBasis_316 rfl (lv_at hl 9 rfl) ?_
    refine va_get (D := (dC, dI)) (ci := 2) (v := .int l_p) (C := RX2) (T := TX2) (N := 9) hx hb hts hinX2 hown hK hP 0 rfl rfl 6 (by decide) hf_25 (fun _ h9 => h9) rfl dX2_layBasis_317 ?_
    obtain ⟨v_33, e_v_33, hF⟩ := nm_ex hF
    rw [← e_v_33]
    obtain ⟨hi, hF⟩ := ck_of hF
    obtain ⟨l_basis_34, e_l_basis_34, hF⟩ := nm_ex hF
    refine kc_iast (j := v_33.toNatClampNeg) (g := l_basis_34) hx hb hK hP hD hS 4 0 rfl rfl rfl hi dX2_layBasis_320 e_l_basis_34 (fun H locs hP hD hS => ?_)
    have hP : va_P (dC, dI) vwCl (lW cI h a l_found l_p l_t l_u l_six l_all l_w l_basis_34 l_crossed) H := hP
    have hD : va_D A (lW cI h a l_found l_p l_t l_u l_six l_all l_w l_basis_34 l_crossed) := hD
    have q0 := sm1 hF
    have hP : va_P (dC, dI) vwCl (lW cI h a l_found l_p l_t l_u l_six l_all l_w o_l_basis l_crossed) H := by rw [← q0]; exact hP
    have hD : va_D A (lW cI h a l_found l_p l_t l_u l_six l_all l_w o_l_basis l_crossed) := by rw [← q0]; exact hD
    refine W_Qe hQ ?_
    exact W.vret hx hb hr (fun t ht hW => ⟨⟨(), rfl, trivial, by rw [ht]; exact hP, va_K.moved hW.alike hK, hD⟩, hS.F ht⟩) hS.2.2 dX2_layBasis_321
  clear e_k40
  refine lv_if_eq (tgt := 32) hx hb dX2_layBasis_18 (by decide) (fun c0 => ?_) (fun c0 => ?_)
  · have hF := if_t hF c0
    refine lv_aload_n hx hb dX2_layBasis_32 rfl (lv_at hl 0 rfl) ?_
    refine va_get (D := (dC, dI)) (ci := 2) (v := .int l_u) (C := RX2) (T := TX2) (N := 9) hx hb hts hinX2 hown hK hP 0 rfl rfl 8 (by decide) hf_48 (fun _ h9 => h9) rfl dX2_layBasis_33 ?_
    refine lv_iconst (v := 2) hx hb dX2_layBasis_36 (by decide) ?_
    refine lv_iadd hx hb dX2_layBasis_37 ?_
    refine lv_iconst (v := 3) hx hb dX2_layBasis_38 (by decide) ?_
    obtain ⟨v_4, e_v_4, hF⟩ := nm_ex hF
    rw [← e_v_4]
    refine lv_irem hx hb dX2_layBasis_39 (by decide) ?_
    exact hk40 (v_4 - v_4 / (3 : Int32) * (3 : Int32)) H locs ls hP hD hS (lv_sub hl [0] rfl) hF
  · have hF := if_f hF c0
    refine lv_aload_n hx hb dX2_layBasis_21 rfl (lv_at hl 0 rfl) ?_
    refine va_get (D := (dC, dI)) (ci := 2) (v := .int l_u) (C := RX2) (T := TX2) (N := 9) hx hb hts hinX2 hown hK hP 0 rfl rfl 8 (by decide) hf_48 (fun _ h9 => h9) rfl dX2_layBasis_22 ?_
    refine lv_iconst (v := 1) hx hb dX2_layBasis_25 (by decide) ?_
    refine lv_iadd hx hb dX2_layBasis_26 ?_
    refine lv_iconst (v := 3) hx hb dX2_layBasis_27 (by decide) ?_
    obtain ⟨v_5, e_v_5, hF⟩ := nm_ex hF
    rw [← e_v_5]
    refine lv_irem hx hb dX2_layBasis_28 (by decide) ?_
    refine lv_goto (tgt := 40) hx hb dX2_layBasis_29 (by decide) ?_
    exact hk40 (v_5 - v_5 / (3 : Int32) * (3 : Int32)) H locs ls hP hD hS (lv_sub hl [0] rfl) hF
def fX2_cross (fu : Nat) (l_p : Int32) (l_u : Int32) (l_six : Nat → Int32) (l_w : Nat → Int32) (l_basis : Nat → Int32) (l_crossed : Nat → Int32)  : Option ((Nat → Int32) × (Nat → Int32)) :=
  bd1 (fX2_layBasis fu l_p l_u l_six l_w l_basis) (fun (l_basis_1 : Nat → Int32) => bd1 (fX4_turn fu 9 l_six l_basis_1 l_crossed) (fun (l_crossed_2 : Nat → Int32) => nm (l_p * l_p) (fun (v_3 : Int32) => if ¬ v_3 = 0 then nm (upd l_crossed_2 0 ((l_crossed_2 0) / v_3)) (fun (l_crossed_4 : Nat → Int32) => if ¬ l_p = 0 then nm (upd l_crossed_4 4 ((l_crossed_4 4) / l_p)) (fun (l_crossed_5 : Nat → Int32) => if ¬ l_p = 0 then nm (upd l_crossed_5 5 ((l_crossed_5 5) / l_p)) (fun (l_crossed_6 : Nat → Int32) => some (l_basis_1, l_crossed_6)) else none) else none) else none)))
def lkX2_cross : List Cond := [.initialized RX4, .static yX4_turn, .fieldLink RX2 7 "KinForms$Lines" "six" "[I", .fieldLink RX2 19 "KinForms$Lines" "basis" "[I", .fieldLink RX2 22 "KinForms$Lines" "crossed" "[I", .fieldLink RX2 25 "KinForms$Lines" "p" "I"]
def vX2_cross : List Cond := .code yX2_cross cX2_cross 1 none :: (lkX2_cross ++ (wsX20 ++ (wsV RX2 62 RX2 yX2_layBasis vX2_layBasis ++ (vX4_turn ++ ([])))))
theorem q_X2_cross : ∀ w ∈ vX2_cross, goodWord w = true := gd_cons rfl (gd_app (by decide +kernel) (gd_app q_wsX20 (gd_app (gd_V q_X2_layBasis) (gd_app q_X4_turn gd_nil))))
theorem g_X2_cross_X2_layBasis : GoodIn vX2_cross (wsV RX2 62 RX2 yX2_layBasis vX2_layBasis) := gi_of (fun w h => List.mem_cons_of_mem _ (List.mem_append_right _ (List.mem_append_right _ (List.mem_append_left _ h)))) (gd_V q_X2_layBasis)
theorem g_X2_cross_X4_turn : GoodIn vX2_cross (vX4_turn) := gi_of (fun w h => List.mem_cons_of_mem _ (List.mem_append_right _ (List.mem_append_right _ (List.mem_append_right _ (List.mem_append_left _ h))))) q_X4_turn
abbrev rmX2_cross : Room := { frames := 3, cells := 0, slots := 0, locals := 75 }
set_option maxHeartbeats 4000000 in
set_option maxRecDepth 100000 in
theorem c_X2_cross (l : Launch) (dC : Nat → ClassId) (dI : Nat → Nat → Nat) (cI : ClassId) (h : Nat) (a : Nat → Nat) (fu : Nat) (sz : Nat) (l_found : Int32) (l_p : Int32) (l_t : Int32) (l_u : Int32) (l_six : Nat → Int32) (l_all : Nat → Int32) (l_w : Nat → Int32) (l_basis : Nat → Int32) (l_crossed : Nat → Int32)  (o_l_basis : Nat → Int32) (o_l_crossed : Nat → Int32) (hF : fX2_cross fu l_p l_u l_six l_w l_basis l_crossed = some (o_l_basis, o_l_crossed)) : Met l yX2_cross vX2_cross rmX2_cross (va_Pc [.ref h] (mPk (dC, dI) vwCl (lW cI h a l_found l_p l_t l_u l_six l_all l_w l_basis l_crossed) [(cI, .int)] sz)) (va_Qv (fun (_ : Unit) => True) (mPo (dC, dI) vwCl (lW cI h a l_found l_p l_t l_u l_six l_all l_w o_l_basis o_l_crossed) [(cI, .int)] (va_A (lW cI h a l_found l_p l_t l_u l_six l_all l_w l_basis l_crossed) sz)) (va_A (lW cI h a l_found l_p l_t l_u l_six l_all l_w l_basis l_crossed) sz)) 0 0 (va_A (lW cI h a l_found l_p l_t l_u l_six l_all l_w l_basis l_crossed) sz) := by
  refine Met.ofW (cc := cX2_cross) (maxL := 1) (ret := none) (by decide) rfl ?_
  intro p e s m args below meth c s₁ B hml hv
  obtain ⟨rfl, hsz, hP, hK, hD0, hN⟩ := hv
  have hx := B.exec
  have hb := B.bytes
  have hr := B.returns
  have hts := atoms_spec (ws := vX2_cross) B.pre
  have hlk : ∀ w ∈ lkX2_cross, w.before _ s = true := fun w h => hts w (List.mem_cons_of_mem _ (List.mem_append_left _ h))
  have hown : s.vm.findClass RX2 = some m.cls := findClass_of_methodNamed B.named
  have hlocks := B.notSynchronized
  subst hsz
  have hD := hD0.self (sz := s.heap.size)
  generalize hAe : va_A (lW cI h a l_found l_p l_t l_u l_six l_all l_w l_basis l_crossed) s.heap.size = A at hD ⊢
  have hA : ∀ q : Nat, s.heap.size ≤ q → A q := fun q h => by rw [← hAe]; exact Or.inr h
  have hS : va_S A s.heap s.heap [] := va_S.rf
  have hinX2 : ∀ w ∈ wsX20, w ∈ vX2_cross := fun w h => List.mem_cons_of_mem _ (List.mem_append_right _ (List.mem_append_left _ h))
  have hf_7 := hlk (.fieldLink RX2 7 "KinForms$Lines" "six" "[I") (by decide +kernel)
  have hf_19 := hlk (.fieldLink RX2 19 "KinForms$Lines" "basis" "[I") (by decide +kernel)
  have hf_22 := hlk (.fieldLink RX2 22 "KinForms$Lines" "crossed" "[I") (by decide +kernel)
  have hf_25 := hlk (.fieldLink RX2 25 "KinForms$Lines" "p" "I") (by decide +kernel)
  have hl := lv_entry ([.ref h] : List Value) (n := 1) (Nat.le_of_ble_eq_true rfl)
  rw [lg_entry_eq]
  generalize (lg_sl ([.ref h] : List Value) ++ List.replicate (1 - (lg_sl ([.ref h] : List Value)).length) Slot.unset).toArray = ls at hl ⊢
  have hl : lv_has ls 1 [(0, .ref h)] := hl
  unfold fX2_cross at hF
  refine W_Q (fun Q hQ => ?_)
  have hP : va_P (dC, dI) vwCl (lW cI h a l_found l_p l_t l_u l_six l_all l_w l_basis l_crossed) s.heap := hP
  refine W_HL (fun H locs eH eL => ?_)
  rw [← eH] at hP
  have hS : va_S A s.heap H locs := by rw [eH, eL]; exact hS
  refine lv_aload_n hx hb dX2_cross_0 rfl (lv_at hl 0 rfl) ?_
  obtain ⟨l_basis_1, hc, hF⟩ := bd1_of hF
  refine mc_v (va_runV (As := []) (rest := []) ⟨hx, hb, hml, hown, hts⟩ (c_X2_layBasis l dC dI cI h a fu H.size l_found l_p l_t l_u l_six l_all l_w l_basis l_crossed  l_basis_1 hc) (cwV 0 hts g_X2_cross_X2_layBasis rfl rfl rfl (by decide +kernel) ⟨Nat.le_of_ble_eq_true rfl, Nat.le_of_ble_eq_true rfl⟩) ⟨mPk_blind, va_recv hK hP (ci := 2) (q0 := 0) rfl rfl, mPk_at hK hP hD hN⟩ rfl rfl hl.1 rfl (lv_room (Nat.le_of_ble_eq_true rfl)) dX2_cross_1 ⟨Nat.zero_le _, Nat.zero_le _⟩) hS (fr_all hD hS hA) (fun H locs hP hD hS => ?_)
  refine lv_aload_n hx hb dX2_cross_4 rfl (lv_at hl 0 rfl) ?_
  refine va_get (D := (dC, dI)) (ci := 2) (v := .ref (a 1)) (C := RX2) (T := TX2) (N := 9) hx hb hts hinX2 hown hK hP 0 rfl rfl 0 (by decide) hf_7 (fun _ h9 => h9) rfl dX2_cross_5 ?_
  refine lv_aload_n hx hb dX2_cross_8 rfl (lv_at hl 0 rfl) ?_
  refine va_get (D := (dC, dI)) (ci := 2) (v := .ref (a 4)) (C := RX2) (T := TX2) (N := 9) hx hb hts hinX2 hown hK hP 0 rfl rfl 3 (by decide) hf_19 (fun _ h9 => h9) rfl dX2_cross_9 ?_
  refine lv_aload_n hx hb dX2_cross_12 rfl (lv_at hl 0 rfl) ?_
  refine va_get (D := (dC, dI)) (ci := 2) (v := .ref (a 5)) (C := RX2) (T := TX2) (N := 9) hx hb hts hinX2 hown hK hP 0 rfl rfl 4 (by decide) hf_22 (fun _ h9 => h9) rfl dX2_cross_13 ?_
  obtain ⟨l_crossed_2, hc, hF⟩ := bd1_of hF
  refine sc_v (wf := (lW cI h a l_found l_p l_t l_u l_six l_all l_w l_basis_1 l_crossed_2)) (va_runSN (As := [.ref (a 1), .ref (a 4), .ref (a 5)]) (rest := []) ⟨hx, hb, hml, hown, hts⟩ (c_X4_turn l dC dI cI (a 1) (a 4) 9 (a 5) fu H.size l_six l_basis_1 l_crossed  l_crossed_2 hc) ⟨va_cnB 3 hts g_X2_cross_X4_turn rfl rfl rfl (hN.2 (RX2, 65, yX4_turn, "KinForms") (by decide +kernel)) (hlk (.initialized RX4) (by decide +kernel)) (by decide +kernel) ⟨Nat.le_of_ble_eq_true rfl, Nat.le_of_ble_eq_true rfl⟩, hlk (.static yX4_turn) (by decide +kernel), trivial⟩ ⟨mPk_blind, mPk_at hK (hP.sub (ws' := (sW3 cI (a 1) (a 4) 9 (a 5) l_six l_basis_1 l_crossed)) [1, 4, 5] rfl) (hD.sub (ws' := (sW3 cI (a 1) (a 4) 9 (a 5) l_six l_basis_1 l_crossed)) [1, 4, 5] (by decide) rfl) hN⟩ rfl rfl hl.1 rfl (lv_room (Nat.le_of_ble_eq_true rfl)) dX2_cross_16 ⟨Nat.zero_le _, Nat.zero_le _⟩) hP hD hS hA [1, 4, 5] [0, 2, 3] rfl rfl rfl rfl rfl (by decide) (fun H locs hP hD hS => ?_)
  refine lv_aload_n hx hb dX2_cross_19 rfl (lv_at hl 0 rfl) ?_
  refine va_get (D := (dC, dI)) (ci := 2) (v := .ref (a 5)) (C := RX2) (T := TX2) (N := 9) hx hb hts hinX2 hown hK hP 0 rfl rfl 4 (by decide) hf_22 (fun _ h9 => h9) rfl dX2_cross_20 ?_
  refine lv_iconst (v := 0) hx hb dX2_cross_23 (by decide) ?_
  refine lv_dup2_11 hx hb dX2_cross_24 rfl rfl ?_
  refine kc_iald (j := 0) hx hb hK hP 5 0 rfl rfl (by decide) (by decide) dX2_cross_25 ?_
  refine lv_aload_n hx hb dX2_cross_26 rfl (lv_at hl 0 rfl) ?_
  refine va_get (D := (dC, dI)) (ci := 2) (v := .int l_p) (C := RX2) (T := TX2) (N := 9) hx hb hts hinX2 hown hK hP 0 rfl rfl 6 (by decide) hf_25 (fun _ h9 => h9) rfl dX2_cross_27 ?_
  refine lv_aload_n hx hb dX2_cross_30 rfl (lv_at hl 0 rfl) ?_
  refine va_get (D := (dC, dI)) (ci := 2) (v := .int l_p) (C := RX2) (T := TX2) (N := 9) hx hb hts hinX2 hown hK hP 0 rfl rfl 6 (by decide) hf_25 (fun _ h9 => h9) rfl dX2_cross_31 ?_
  refine lv_imul hx hb dX2_cross_34 ?_
  refine lv_topi (fun v_3 e_v_3 => ?_)
  have hF := nm_at hF e_v_3
  obtain ⟨hz, hF⟩ := ck_of hF
  refine lv_idiv hx hb dX2_cross_35 hz ?_
  obtain ⟨l_crossed_4, e_l_crossed_4, hF⟩ := nm_ex hF
  refine kc_iast (j := 0) (g := l_crossed_4) hx hb hK hP hD hS 5 0 rfl rfl (by decide) (by decide) dX2_cross_36 e_l_crossed_4 (fun H locs hP hD hS => ?_)
  have hP : va_P (dC, dI) vwCl (lW cI h a l_found l_p l_t l_u l_six l_all l_w l_basis_1 l_crossed_4) H := hP
  have hD : va_D A (lW cI h a l_found l_p l_t l_u l_six l_all l_w l_basis_1 l_crossed_4) := hD
  refine lv_aload_n hx hb dX2_cross_37 rfl (lv_at hl 0 rfl) ?_
  refine va_get (D := (dC, dI)) (ci := 2) (v := .ref (a 5)) (C := RX2) (T := TX2) (N := 9) hx hb hts hinX2 hown hK hP 0 rfl rfl 4 (by decide) hf_22 (fun _ h9 => h9) rfl dX2_cross_38 ?_
  refine lv_iconst (v := 4) hx hb dX2_cross_41 (by decide) ?_
  refine lv_dup2_11 hx hb dX2_cross_42 rfl rfl ?_
  refine kc_iald (j := 4) hx hb hK hP 5 0 rfl rfl (by decide) (by decide) dX2_cross_43 ?_
  refine lv_aload_n hx hb dX2_cross_44 rfl (lv_at hl 0 rfl) ?_
  refine va_get (D := (dC, dI)) (ci := 2) (v := .int l_p) (C := RX2) (T := TX2) (N := 9) hx hb hts hinX2 hown hK hP 0 rfl rfl 6 (by decide) hf_25 (fun _ h9 => h9) rfl dX2_cross_45 ?_
  obtain ⟨hz, hF⟩ := ck_of hF
  refine lv_idiv hx hb dX2_cross_48 hz ?_
  obtain ⟨l_crossed_5, e_l_crossed_5, hF⟩ := nm_ex hF
  refine kc_iast (j := 4) (g := l_crossed_5) hx hb hK hP hD hS 5 0 rfl rfl (by decide) (by decide) dX2_cross_49 e_l_crossed_5 (fun H locs hP hD hS => ?_)
  have hP : va_P (dC, dI) vwCl (lW cI h a l_found l_p l_t l_u l_six l_all l_w l_basis_1 l_crossed_5) H := hP
  have hD : va_D A (lW cI h a l_found l_p l_t l_u l_six l_all l_w l_basis_1 l_crossed_5) := hD
  refine lv_aload_n hx hb dX2_cross_50 rfl (lv_at hl 0 rfl) ?_
  refine va_get (D := (dC, dI)) (ci := 2) (v := .ref (a 5)) (C := RX2) (T := TX2) (N := 9) hx hb hts hinX2 hown hK hP 0 rfl rfl 4 (by decide) hf_22 (fun _ h9 => h9) rfl dX2_cross_51 ?_
  refine lv_iconst (v := 5) hx hb dX2_cross_54 (by decide) ?_
  refine lv_dup2_11 hx hb dX2_cross_55 rfl rfl ?_
  refine kc_iald (j := 5) hx hb hK hP 5 0 rfl rfl (by decide) (by decide) dX2_cross_56 ?_
  refine lv_aload_n hx hb dX2_cross_57 rfl (lv_at hl 0 rfl) ?_
  refine va_get (D := (dC, dI)) (ci := 2) (v := .int l_p) (C := RX2) (T := TX2) (N := 9) hx hb hts hinX2 hown hK hP 0 rfl rfl 6 (by decide) hf_25 (fun _ h9 => h9) rfl dX2_cross_58 ?_
  obtain ⟨hz, hF⟩ := ck_of hF
  refine lv_idiv hx hb dX2_cross_61 hz ?_
  obtain ⟨l_crossed_6, e_l_crossed_6, hF⟩ := nm_ex hF
  refine kc_iast (j := 5) (g := l_crossed_6) hx hb hK hP hD hS 5 0 rfl rfl (by decide) (by decide) dX2_cross_62 e_l_crossed_6 (fun H locs hP hD hS => ?_)
  have hP : va_P (dC, dI) vwCl (lW cI h a l_found l_p l_t l_u l_six l_all l_w l_basis_1 l_crossed_6) H := hP
  have hD : va_D A (lW cI h a l_found l_p l_t l_u l_six l_all l_w l_basis_1 l_crossed_6) := hD
  obtain ⟨q0, q1⟩ := sm2 hF
  have hP : va_P (dC, dI) vwCl (lW cI h a l_found l_p l_t l_u l_six l_all l_w o_l_basis o_l_crossed) H := by rw [← q0, ← q1]; exact hP
  have hD : va_D A (lW cI h a l_found l_p l_t l_u l_six l_all l_w o_l_basis o_l_crossed) := by rw [← q0, ← q1]; exact hD
  refine W_Qe hQ ?_
  exact W.vret hx hb hr (fun t ht hW => ⟨⟨(), rfl, trivial, by rw [ht]; exact hP, va_K.moved hW.alike hK, hD⟩, hS.F ht⟩) hS.2.2 dX2_cross_63
