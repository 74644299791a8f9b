def sW1 (cI : ClassId) (b : Nat) (six : Nat → Int32) : va_W := [(b, .inl (cI, 6, .inl six))]
def sW2 (cI : ClassId) (b : Nat) (b2 : Nat) (n2 : Nat) (six : Nat → Int32) (rows : Nat → Int32) : va_W := [(b, .inl (cI, 6, .inl six)), (b2, .inl (cI, n2, .inl rows))]
def sW3 (cI : ClassId) (b : Nat) (b2 : Nat) (n2 : Nat) (b3 : Nat) (six : Nat → Int32) (rows : Nat → Int32) (into : Nat → Int32) : va_W := [(b, .inl (cI, 6, .inl six)), (b2, .inl (cI, n2, .inl rows)), (b3, .inl (cI, 6, .inl into))]
def aW2 (cI : ClassId) (b : Nat) (b2 : Nat) (one : Nat → Int32) (other : Nat → Int32) : va_W := [(b, .inl (cI, 6, .inl one)), (b2, .inl (cI, 6, .inl other))]
def tW1 (cI : ClassId) (b2 : Nat) (n2 : Nat) (rows : Nat → Int32) : va_W := [(b2, .inl (cI, n2, .inl rows))]
def rW (cI : ClassId) (h : Nat) (a : Nat → Nat) (r_ties : Int32) (r_six : Nat → Int32) (r_rows : Nat → Int32) (r_box : Nat → Int32) (r_worth : Nat → Int32) (r_image : Nat → Int32) (r_best : Nat → Int32) (r_bestRows : Nat → Int32) : va_W := [(h, .inr (3, [.ref (a 1), .ref (a 2), .ref (a 3), .ref (a 4), .ref (a 5), .ref (a 6), .ref (a 7), .int r_ties])), ((a 1), .inl (cI, 6, .inl r_six)), ((a 2), .inl (cI, 9, .inl r_rows)), ((a 3), .inl (cI, 81, .inl r_box)), ((a 4), .inl (cI, 27, .inl r_worth)), ((a 5), .inl (cI, 81, .inl r_image)), ((a 6), .inl (cI, 6, .inl r_best)), ((a 7), .inl (cI, 9, .inl r_bestRows))]
def rnW (cI : ClassId) (h : Nat) (a : Nat → Nat) (b : Nat) (r_ties : Int32) (r_six : Nat → Int32) (r_rows : Nat → Int32) (r_box : Nat → Int32) (r_worth : Nat → Int32) (r_image : Nat → Int32) (r_best : Nat → Int32) (r_bestRows : Nat → Int32) (numbers : Nat → Int32) : va_W := [(h, .inr (3, [.ref (a 1), .ref (a 2), .ref (a 3), .ref (a 4), .ref (a 5), .ref (a 6), .ref (a 7), .int r_ties])), ((a 1), .inl (cI, 6, .inl r_six)), ((a 2), .inl (cI, 9, .inl r_rows)), ((a 3), .inl (cI, 81, .inl r_box)), ((a 4), .inl (cI, 27, .inl r_worth)), ((a 5), .inl (cI, 81, .inl r_image)), ((a 6), .inl (cI, 6, .inl r_best)), ((a 7), .inl (cI, 9, .inl r_bestRows)), (b, .inl (cI, 6, .inl numbers))]
def lW (cI : ClassId) (h : Nat) (a : Nat → Nat) (l_found : Int32) (l_p : Int32) (l_t : Int32) (l_u : Int32) (l_six : Nat → Int32) (l_all : Nat → Int32) (l_w : Nat → Int32) (l_basis : Nat → Int32) (l_crossed : Nat → Int32) : va_W := [(h, .inr (2, [.ref (a 1), .ref (a 2), .ref (a 3), .ref (a 4), .ref (a 5), .int l_found, .int l_p, .int l_t, .int l_u])), ((a 1), .inl (cI, 6, .inl l_six)), ((a 2), .inl (cI, 24, .inl l_all)), ((a 3), .inl (cI, 3, .inl l_w)), ((a 4), .inl (cI, 9, .inl l_basis)), ((a 5), .inl (cI, 6, .inl l_crossed))]
def lnW (cI : ClassId) (h : Nat) (a : Nat → Nat) (b : Nat) (l_found : Int32) (l_p : Int32) (l_t : Int32) (l_u : Int32) (l_six : Nat → Int32) (l_all : Nat → Int32) (l_w : Nat → Int32) (l_basis : Nat → Int32) (l_crossed : Nat → Int32) (numbers : Nat → Int32) : va_W := [(h, .inr (2, [.ref (a 1), .ref (a 2), .ref (a 3), .ref (a 4), .ref (a 5), .int l_found, .int l_p, .int l_t, .int l_u])), ((a 1), .inl (cI, 6, .inl l_six)), ((a 2), .inl (cI, 24, .inl l_all)), ((a 3), .inl (cI, 3, .inl l_w)), ((a 4), .inl (cI, 9, .inl l_basis)), ((a 5), .inl (cI, 6, .inl l_crossed)), (b, .inl (cI, 6, .inl numbers))]
def kW0 (cI : ClassId) (h : Nat) (a : Nat → Nat) (held : Int32) (p_ : Int32) : va_W := [(h, .inr (4, [.ref (a 1), .ref (a 2), .ref (a 3), .ref (a 4), .ref (a 5), .ref (a 6), .int held, .int p_]))]
def kW4 (cI : ClassId) (h : Nat) (a : Nat → Nat) (held : Int32) (p_ : Int32) (given : Nat → Int32) : va_W := [(h, .inr (4, [.ref (a 1), .ref (a 2), .ref (a 3), .ref (a 4), .ref (a 5), .ref (a 6), .int held, .int p_])), ((a 4), .inl (cI, 6, .inl given))]
def kW5 (cI : ClassId) (h : Nat) (a : Nat → Nat) (held : Int32) (p_ : Int32) (givenRows : Nat → Int32) : va_W := [(h, .inr (4, [.ref (a 1), .ref (a 2), .ref (a 3), .ref (a 4), .ref (a 5), .ref (a 6), .int held, .int p_])), ((a 5), .inl (cI, 9, .inl givenRows))]
def fJ9_floorMod_7cf53  (p0 : Int32) (p1 : Int32) : Option (Int32) :=
  if ¬ p1 = 0 then nm (p0 - p0 / p1 * p1) (fun (x2_1 : Int32) => nm (some x2_1) (fun (k18 : Option (Int32)) => if 0 ≤ (p0 ^^^ p1) then ((k18)) else (if x2_1 = 0 then ((k18)) else (nm (x2_1 + p1) (fun (v_2 : Int32) => some v_2))))) else none
def lkJ9_floorMod_7cf53 : List Cond := []
def vJ9_floorMod_7cf53 : List Cond := .code yJ9_floorMod_7cf53 cJ9_floorMod_7cf53 3 (some .int) :: (lkJ9_floorMod_7cf53 ++ ([]))
theorem q_J9_floorMod_7cf53 : ∀ w ∈ vJ9_floorMod_7cf53, goodWord w = true := gd_cons rfl (gd_app (by decide +kernel) gd_nil)
abbrev rmJ9_floorMod_7cf53 : Room := { frames := 0, cells := 0, slots := 0, locals := 0 }
set_option maxHeartbeats 4000000 in
set_option maxRecDepth 100000 in
theorem c_J9_floorMod_7cf53 (l : Launch) (p0 : Int32) (p1 : Int32) (ro : Int32) (hF : fJ9_floorMod_7cf53 p0 p1 = some ro) : Met l yJ9_floorMod_7cf53 vJ9_floorMod_7cf53 rmJ9_floorMod_7cf53 (va_Pc [.int p0, .int p1] (fun _ => True)) (vp_Si (fun x => x = ro)) 0 0 (fun _ => False) := by
  refine va_MetF (cc := cJ9_floorMod_7cf53) (maxL := 3) (ret := (some .int)) (by decide +kernel) rfl ?_
  intro p e s m args below meth c s₁ B hml hv
  obtain ⟨rfl, -⟩ := hv
  have hx := B.exec
  have hb := B.bytes
  have hr := B.returns
  have hts := atoms_spec (ws := vJ9_floorMod_7cf53) B.pre
  have hlk : ∀ w ∈ lkJ9_floorMod_7cf53, w.before _ s = true := fun w h => hts w (List.mem_cons_of_mem _ (List.mem_append_left _ h))
  have hown : s.vm.findClass RJ9 = some m.cls := findClass_of_methodNamed B.named
  have hlocks := B.notSynchronized
  have hl := lv_entry ([.int p0, .int p1] : List Value) (n := 3) (Nat.le_of_ble_eq_true rfl)
  rw [lg_entry_eq]
  generalize (lg_sl ([.int p0, .int p1] : List Value) ++ List.replicate (3 - (lg_sl ([.int p0, .int p1] : List Value)).length) Slot.unset).toArray = ls at hl ⊢
  have hl : lv_has ls 3 [(0, .int p0), (1, .int p1)] := hl
  unfold fJ9_floorMod_7cf53 at hF
  refine W_Q (fun Q hQ => ?_)
  refine lv_iload_n hx hb dJ9_floorMod_7cf53_0 rfl (lv_at hl 0 rfl) ?_
  refine lv_iload_n hx hb dJ9_floorMod_7cf53_1 rfl (lv_at hl 1 rfl) ?_
  obtain ⟨hz, hF⟩ := ck_of hF
  refine lv_irem hx hb dJ9_floorMod_7cf53_2 hz ?_
  refine lv_topi (fun x2_1 e_x2_1 => ?_)
  have hF := nm_at hF e_x2_1
  refine lv_istore_n (lv' := [(2, .int x2_1), (0, .int p0), (1, .int p1)]) hx hb dJ9_floorMod_7cf53_3 rfl hl (by decide) rfl (fun ls hl => ?_)
  refine lv_iload_n hx hb dJ9_floorMod_7cf53_4 rfl (lv_at hl 1 rfl) ?_
  refine lv_iload_n hx hb dJ9_floorMod_7cf53_5 rfl (lv_at hl 2 rfl) ?_
  refine lv_ixor hx hb dJ9_floorMod_7cf53_6 ?_
  obtain ⟨k18, e_k18, hF⟩ := nm_ex hF
  have hk18 : ∀  (ls : Array Slot), lv_has ls 3 [(2, .int x2_1)] → k18 = some ro → W p l e rmJ9_floorMod_7cf53 s m ([.int p0, .int p1] : List Value).toArray below meth c s.heap [] 0 0 Q (F0 m 18 ls []) := by
    intro ls hl hF
    have hF := ka0 e_k18 hF
    refine lv_iload_n hx hb dJ9_floorMod_7cf53_18 rfl (lv_at hl 0 rfl) ?_
    have q0 := sm1 hF
    refine W_Qe hQ ?_
    exact W.iret hx hb hr (fun t ht hW => ⟨_, rfl, q0, ht⟩) (fun _ h9 => by cases h9) dJ9_floorMod_7cf53_19
  clear e_k18
  refine lv_if_ge (tgt := 18) hx hb dJ9_floorMod_7cf53_7 (by decide) (fun c0 => ?_) (fun c0 => ?_)
  · have hF := if_t hF c0
    exact hk18 ls (lv_sub hl [0] rfl) hF
  · have hF := if_f hF c0
    refine lv_iload_n hx hb dJ9_floorMod_7cf53_10 rfl (lv_at hl 0 rfl) ?_
    refine lv_if_eq (tgt := 18) hx hb dJ9_floorMod_7cf53_11 (by decide) (fun c0 => ?_) (fun c0 => ?_)
    · have hF := if_t hF c0
      exact hk18 ls (lv_sub hl [0] rfl) hF
    · have hF := if_f hF c0
      refine lv_iload_n hx hb dJ9_floorMod_7cf53_14 rfl (lv_at hl 0 rfl) ?_
      refine lv_iload_n hx hb dJ9_floorMod_7cf53_15 rfl (lv_at hl 2 rfl) ?_
      refine lv_iadd hx hb dJ9_floorMod_7cf53_16 ?_
      refine lv_topi (fun v_2 e_v_2 => ?_)
      have hF := nm_at hF e_v_2
      have q0 := sm1 hF
      refine W_Qe hQ ?_
      exact W.iret hx hb hr (fun t ht hW => ⟨_, rfl, q0, ht⟩) (fun _ h9 => by cases h9) dJ9_floorMod_7cf53_17
def fJ9_floorDiv_7cf53  (p0 : Int32) (p1 : Int32) : Option (Int32) :=
  if ¬ p1 = 0 then nm (p0 / p1) (fun (x2_1 : Int32) => nm (some x2_1) (fun (k21 : Option (Int32)) => if 0 ≤ (p0 ^^^ p1) then ((k21)) else (if (x2_1 * p1) = p0 then ((k21)) else (nm (x2_1 - (1 : Int32)) (fun (v_2 : Int32) => some v_2))))) else none
def lkJ9_floorDiv_7cf53 : List Cond := []
def vJ9_floorDiv_7cf53 : List Cond := .code yJ9_floorDiv_7cf53 cJ9_floorDiv_7cf53 3 (some .int) :: (lkJ9_floorDiv_7cf53 ++ ([]))
theorem q_J9_floorDiv_7cf53 : ∀ w ∈ vJ9_floorDiv_7cf53, goodWord w = true := gd_cons rfl (gd_app (by decide +kernel) gd_nil)
abbrev rmJ9_floorDiv_7cf53 : Room := { frames := 0, cells := 0, slots := 0, locals := 0 }
set_option maxHeartbeats 4000000 in
set_option maxRecDepth 100000 in
theorem c_J9_floorDiv_7cf53 (l : Launch) (p0 : Int32) (p1 : Int32) (ro : Int32) (hF : fJ9_floorDiv_7cf53 p0 p1 = some ro) : Met l yJ9_floorDiv_7cf53 vJ9_floorDiv_7cf53 rmJ9_floorDiv_7cf53 (va_Pc [.int p0, .int p1] (fun _ => True)) (vp_Si (fun x => x = ro)) 0 0 (fun _ => False) := by
  refine va_MetF (cc := cJ9_floorDiv_7cf53) (maxL := 3) (ret := (some .int)) (by decide +kernel) rfl ?_
  intro p e s m args below meth c s₁ B hml hv
  obtain ⟨rfl, -⟩ := hv
  have hx := B.exec
  have hb := B.bytes
  have hr := B.returns
  have hts := atoms_spec (ws := vJ9_floorDiv_7cf53) B.pre
  have hlk : ∀ w ∈ lkJ9_floorDiv_7cf53, w.before _ s = true := fun w h => hts w (List.mem_cons_of_mem _ (List.mem_append_left _ h))
  have hown : s.vm.findClass RJ9 = some m.cls := findClass_of_methodNamed B.named
  have hlocks := B.notSynchronized
  have hl := lv_entry ([.int p0, .int p1] : List Value) (n := 3) (Nat.le_of_ble_eq_true rfl)
  rw [lg_entry_eq]
  generalize (lg_sl ([.int p0, .int p1] : List Value) ++ List.replicate (3 - (lg_sl ([.int p0, .int p1] : List Value)).length) Slot.unset).toArray = ls at hl ⊢
  have hl : lv_has ls 3 [(0, .int p0), (1, .int p1)] := hl
  unfold fJ9_floorDiv_7cf53 at hF
  refine W_Q (fun Q hQ => ?_)
  refine lv_iload_n hx hb dJ9_floorDiv_7cf53_0 rfl (lv_at hl 0 rfl) ?_
  refine lv_iload_n hx hb dJ9_floorDiv_7cf53_1 rfl (lv_at hl 1 rfl) ?_
  obtain ⟨hz, hF⟩ := ck_of hF
  refine lv_idiv hx hb dJ9_floorDiv_7cf53_2 hz ?_
  refine lv_topi (fun x2_1 e_x2_1 => ?_)
  have hF := nm_at hF e_x2_1
  refine lv_istore_n (lv' := [(2, .int x2_1), (0, .int p0), (1, .int p1)]) hx hb dJ9_floorDiv_7cf53_3 rfl hl (by decide) rfl (fun ls hl => ?_)
  refine lv_iload_n hx hb dJ9_floorDiv_7cf53_4 rfl (lv_at hl 1 rfl) ?_
  refine lv_iload_n hx hb dJ9_floorDiv_7cf53_5 rfl (lv_at hl 2 rfl) ?_
  refine lv_ixor hx hb dJ9_floorDiv_7cf53_6 ?_
  obtain ⟨k21, e_k21, hF⟩ := nm_ex hF
  have hk21 : ∀  (ls : Array Slot), lv_has ls 3 [(2, .int x2_1)] → k21 = some ro → W p l e rmJ9_floorDiv_7cf53 s m ([.int p0, .int p1] : List Value).toArray below meth c s.heap [] 0 0 Q (F0 m 21 ls []) := by
    intro ls hl hF
    have hF := ka0 e_k21 hF
    refine lv_iload_n hx hb dJ9_floorDiv_7cf53_21 rfl (lv_at hl 0 rfl) ?_
    have q0 := sm1 hF
    refine W_Qe hQ ?_
    exact W.iret hx hb hr (fun t ht hW => ⟨_, rfl, q0, ht⟩) (fun _ h9 => by cases h9) dJ9_floorDiv_7cf53_22
  clear e_k21
  refine lv_if_ge (tgt := 21) hx hb dJ9_floorDiv_7cf53_7 (by decide) (fun c0 => ?_) (fun c0 => ?_)
  · have hF := if_t hF c0
    exact hk21 ls (lv_sub hl [0] rfl) hF
  · have hF := if_f hF c0
    refine lv_iload_n hx hb dJ9_floorDiv_7cf53_10 rfl (lv_at hl 0 rfl) ?_
    refine lv_iload_n hx hb dJ9_floorDiv_7cf53_11 rfl (lv_at hl 2 rfl) ?_
    refine lv_imul hx hb dJ9_floorDiv_7cf53_12 ?_
    refine lv_iload_n hx hb dJ9_floorDiv_7cf53_13 rfl (lv_at hl 1 rfl) ?_
    refine lv_icmp_eq (tgt := 21) hx hb dJ9_floorDiv_7cf53_14 (by decide) (fun c0 => ?_) (fun c0 => ?_)
    · have hF := if_t hF c0
      exact hk21 ls (lv_sub hl [0] rfl) hF
    · have hF := if_f hF c0
      refine lv_iload_n hx hb dJ9_floorDiv_7cf53_17 rfl (lv_at hl 0 rfl) ?_
      refine lv_iconst (v := 1) hx hb dJ9_floorDiv_7cf53_18 (by decide) ?_
      refine lv_isub hx hb dJ9_floorDiv_7cf53_19 ?_
      refine lv_topi (fun v_2 e_v_2 => ?_)
      have hF := nm_at hF e_v_2
      have q0 := sm1 hF
      refine W_Qe hQ ?_
      exact W.iret hx hb hr (fun t ht hW => ⟨_, rfl, q0, ht⟩) (fun _ h9 => by cases h9) dJ9_floorDiv_7cf53_20
def fJ6_compare_7cf53  (p0 : Int32) (p1 : Int32) : Option (Int32) :=
  nm (fun (s_1 : Int32) => some s_1) (fun (k19 : (Int32) → Option (Int32)) => if p1 ≤ p0 then (if p0 = p1 then ((k19 (0 : Int32))) else ((k19 (1 : Int32)))) else ((k19 (-1 : Int32))))
def lkJ6_compare_7cf53 : List Cond := []
def vJ6_compare_7cf53 : List Cond := .code yJ6_compare_7cf53 cJ6_compare_7cf53 2 (some .int) :: (lkJ6_compare_7cf53 ++ ([]))
theorem q_J6_compare_7cf53 : ∀ w ∈ vJ6_compare_7cf53, goodWord w = true := gd_cons rfl (gd_app (by decide +kernel) gd_nil)
abbrev rmJ6_compare_7cf53 : Room := { frames := 0, cells := 0, slots := 0, locals := 0 }
set_option maxHeartbeats 4000000 in
set_option maxRecDepth 100000 in
theorem c_J6_compare_7cf53 (l : Launch) (p0 : Int32) (p1 : Int32) (ro : Int32) (hF : fJ6_compare_7cf53 p0 p1 = some ro) : Met l yJ6_compare_7cf53 vJ6_compare_7cf53 rmJ6_compare_7cf53 (va_Pc [.int p0, .int p1] (fun _ => True)) (vp_Si (fun x => x = ro)) 0 0 (fun _ => False) := by
  refine va_MetF (cc := cJ6_compare_7cf53) (maxL := 2) (ret := (some .int)) (by decide +kernel) rfl ?_
  intro p e s m args below meth c s₁ B hml hv
  obtain ⟨rfl, -⟩ := hv
  have hx := B.exec
  have hb := B.bytes
  have hr := B.returns
  have hts := atoms_spec (ws := vJ6_compare_7cf53) B.pre
  have hlk : ∀ w ∈ lkJ6_compare_7cf53, w.before _ s = true := fun w h => hts w (List.mem_cons_of_mem _ (List.mem_append_left _ h))
  have hown : s.vm.findClass RJ6 = some m.cls := findClass_of_methodNamed B.named
  have hlocks := B.notSynchronized
  have hl := lv_entry ([.int p0, .int p1] : List Value) (n := 2) (Nat.le_of_ble_eq_true rfl)
  rw [lg_entry_eq]
  generalize (lg_sl ([.int p0, .int p1] : List Value) ++ List.replicate (2 - (lg_sl ([.int p0, .int p1] : List Value)).length) Slot.unset).toArray = ls at hl ⊢
  have hl : lv_has ls 2 [(0, .int p0), (1, .int p1)] := hl
  unfold fJ6_compare_7cf53 at hF
  refine W_Q (fun Q hQ => ?_)
  refine lv_iload_n hx hb dJ6_compare_7cf53_0 rfl (lv_at hl 0 rfl) ?_
  refine lv_iload_n hx hb dJ6_compare_7cf53_1 rfl (lv_at hl 1 rfl) ?_
  obtain ⟨k19, e_k19, hF⟩ := nm_ex hF
  have hk19 : ∀ (s_1 : Int32) (ls : Array Slot), lv_has ls 2 [] → k19 s_1 = some ro → W p l e rmJ6_compare_7cf53 s m ([.int p0, .int p1] : List Value).toArray below meth c s.heap [] 0 0 Q (F0 m 19 ls [.int s_1]) := by
    intro s_1 ls hl hF
    have hF := ka1 e_k19 hF
    have q0 := sm1 hF
    refine W_Qe hQ ?_
    exact W.iret hx hb hr (fun t ht hW => ⟨_, rfl, q0, ht⟩) (fun _ h9 => by cases h9) dJ6_compare_7cf53_19
  clear e_k19
  refine lv_icmp_ge (tgt := 9) hx hb dJ6_compare_7cf53_2 (by decide) (fun c0 => ?_) (fun c0 => ?_)
  · have hF := if_t hF c0
    refine lv_iload_n hx hb dJ6_compare_7cf53_9 rfl (lv_at hl 0 rfl) ?_
    refine lv_iload_n hx hb dJ6_compare_7cf53_10 rfl (lv_at hl 1 rfl) ?_
    refine lv_icmp_ne (tgt := 18) hx hb dJ6_compare_7cf53_11 (by decide) (fun c0 => ?_) (fun c0 => ?_)
    · have hF := if_f hF c0
      refine lv_iconst (v := 1) hx hb dJ6_compare_7cf53_18 (by decide) ?_
      exact hk19 (1 : Int32) ls (lv_sub hl [] rfl) hF
    · have hF := if_t hF c0
      refine lv_iconst (v := 0) hx hb dJ6_compare_7cf53_14 (by decide) ?_
      refine lv_goto (tgt := 19) hx hb dJ6_compare_7cf53_15 (by decide) ?_
      exact hk19 (0 : Int32) ls (lv_sub hl [] rfl) hF
  · have hF := if_f hF c0
    refine lv_iconst (v := (-1)) hx hb dJ6_compare_7cf53_5 (by decide) ?_
    refine lv_goto (tgt := 19) hx hb dJ6_compare_7cf53_6 (by decide) ?_
    exact hk19 (-1 : Int32) ls (lv_sub hl [] rfl) hF
def fX6_isOutside  (p0 : Int32) (p1 : Int32) (p2 : Int32) : Option (Int32) :=
  nm (fun (s_1 : Int32) => if s_1 = 0 ∨ s_1 = 1 then some s_1 else none) (fun (k15 : (Int32) → Option (Int32)) => nm ((k15 (1 : Int32))) (fun (k10 : Option (Int32)) => if p0 < p1 then ((k10)) else (if p0 ≤ p2 then ((k15 (0 : Int32))) else ((k10)))))
def lkX6_isOutside : List Cond := []
def vX6_isOutside : List Cond := .code yX6_isOutside cX6_isOutside 3 (some .boolean) :: (lkX6_isOutside ++ ([]))
theorem q_X6_isOutside : ∀ w ∈ vX6_isOutside, goodWord w = true := gd_cons rfl (gd_app (by decide +kernel) gd_nil)
abbrev rmX6_isOutside : Room := { frames := 0, cells := 0, slots := 0, locals := 0 }
set_option maxHeartbeats 4000000 in
set_option maxRecDepth 100000 in
theorem c_X6_isOutside (l : Launch) (p0 : Int32) (p1 : Int32) (p2 : Int32) (ro : Int32) (hF : fX6_isOutside p0 p1 p2 = some ro) : Met l yX6_isOutside vX6_isOutside rmX6_isOutside (va_Pc [.int p0, .int p1, .int p2] (fun _ => True)) (vp_Si (fun x => x = ro)) 0 0 (fun _ => False) := by
  refine Met.ofW (cc := cX6_isOutside) (maxL := 3) (ret := (some .boolean)) (by decide) rfl ?_
  intro p e s m args below meth c s₁ B hml hv
  obtain ⟨rfl, -⟩ := hv
  have hx := B.exec
  have hb := B.bytes
  have hr := B.returns
  have hts := atoms_spec (ws := vX6_isOutside) B.pre
  have hlk : ∀ w ∈ lkX6_isOutside, w.before _ s = true := fun w h => hts w (List.mem_cons_of_mem _ (List.mem_append_left _ h))
  have hown : s.vm.findClass RX6 = some m.cls := findClass_of_methodNamed B.named
  have hlocks := B.notSynchronized
  have hl := lv_entry ([.int p0, .int p1, .int p2] : List Value) (n := 3) (Nat.le_of_ble_eq_true rfl)
  rw [lg_entry_eq]
  generalize (lg_sl ([.int p0, .int p1, .int p2] : List Value) ++ List.replicate (3 - (lg_sl ([.int p0, .int p1, .int p2] : List Value)).length) Slot.unset).toArray = ls at hl ⊢
  have hl : lv_has ls 3 [(0, .int p0), (1, .int p1), (2, .int p2)] := hl
  unfold fX6_isOutside at hF
  refine W_Q (fun Q hQ => ?_)
  refine lv_iload_n hx hb dX6_isOutside_0 rfl (lv_at hl 0 rfl) ?_
  refine lv_iload_n hx hb dX6_isOutside_1 rfl (lv_at hl 1 rfl) ?_
  obtain ⟨k15, e_k15, hF⟩ := nm_ex hF
  have hk15 : ∀ (s_1 : Int32) (ls : Array Slot), lv_has ls 3 [] → k15 s_1 = some ro → W p l e rmX6_isOutside s m ([.int p0, .int p1, .int p2] : List Value).toArray below meth c s.heap [] 0 0 Q (F0 m 15 ls [.int s_1]) := by
    intro s_1 ls hl hF
    have hF := ka1 e_k15 hF
    obtain ⟨hz, hF⟩ := ck_of hF
    have q0 := sm1 hF
    refine W_Qe hQ ?_
    exact W.zret (ty := .boolean) hx hb hr (nz_bool hz) (fun t ht hW => ⟨_, rfl, q0, ht⟩) (fun _ h9 => by cases h9) dX6_isOutside_15
  clear e_k15
  obtain ⟨k10, e_k10, hF⟩ := nm_ex hF
  have hk10 : ∀  (ls : Array Slot), lv_has ls 3 [] → k10 = some ro → W p l e rmX6_isOutside s m ([.int p0, .int p1, .int p2] : List Value).toArray below meth c s.heap [] 0 0 Q (F0 m 10 ls []) := by
    intro ls hl hF
    have hF := ka0 e_k10 hF
    refine lv_iconst (v := 1) hx hb dX6_isOutside_10 (by decide) ?_
    refine lv_goto (tgt := 15) hx hb dX6_isOutside_11 (by decide) ?_
    exact hk15 (1 : Int32) ls (lv_sub hl [] rfl) hF
  clear e_k10
  refine lv_icmp_lt (tgt := 10) hx hb dX6_isOutside_2 (by decide) (fun c0 => ?_) (fun c0 => ?_)
  · have hF := if_t hF c0
    exact hk10 ls (lv_sub hl [] rfl) hF
  · have hF := if_f hF c0
    refine lv_iload_n hx hb dX6_isOutside_5 rfl (lv_at hl 0 rfl) ?_
    refine lv_iload_n hx hb dX6_isOutside_6 rfl (lv_at hl 2 rfl) ?_
    refine lv_icmp_le (tgt := 14) hx hb dX6_isOutside_7 (by decide) (fun c0 => ?_) (fun c0 => ?_)
    · have hF := if_t hF c0
      refine lv_iconst (v := 0) hx hb dX6_isOutside_14 (by decide) ?_
      exact hk15 (0 : Int32) ls (lv_sub hl [] rfl) hF
    · have hF := if_f hF c0
      exact hk10 ls (lv_sub hl [] rfl) hF
def fX6_commonOf_L9  : Nat → (Int64) → (Int64) → (Int32) → Option (Int64)
  | 0, _, _, _ => none
  | n + 1, x4_1, x6_2, x8_3 => nm (some x4_1) (fun (k45 : Option (Int64)) => if (128 : Int32) ≤ x8_3 then ((k45)) else (if x6_2 = (0 : Int64) then ((k45)) else (if ¬ x6_2 = 0 then nm (x4_1 - x4_1 / x6_2 * x6_2) (fun (x9_4 : Int64) => nm (x8_3 + (1 : Int32)) (fun (x8_5 : Int32) => (fX6_commonOf_L9 n x6_2 x9_4 x8_5))) else none)))
def fX6_commonOf (fu : Nat)  (p0 : Int64) (p1 : Int64) : Option (Int64) :=
  (fX6_commonOf_L9 fu p0 p1 (0 : Int32))
def lkX6_commonOf : List Cond := []
def vX6_commonOf : List Cond := .code yX6_commonOf cX6_commonOf 11 (some .long) :: (lkX6_commonOf ++ ([]))
theorem q_X6_commonOf : ∀ w ∈ vX6_commonOf, goodWord w = true := gd_cons rfl (gd_app (by decide +kernel) gd_nil)
abbrev rmX6_commonOf : Room := { frames := 0, cells := 0, slots := 0, locals := 0 }
set_option maxHeartbeats 4000000 in
set_option maxRecDepth 100000 in
theorem c_X6_commonOf (l : Launch) (fu : Nat) (p0 : Int64) (p1 : Int64) (ro : Int64) (hF : fX6_commonOf fu p0 p1 = some ro) : Met l yX6_commonOf vX6_commonOf rmX6_commonOf (va_Pc [.long p0, .long p1] (fun _ => True)) (vp_Sl (fun x => x = ro)) 0 0 (fun _ => False) := by
  refine Met.ofW (cc := cX6_commonOf) (maxL := 11) (ret := (some .long)) (by decide) rfl ?_
  intro p e s m args below meth c s₁ B hml hv
  obtain ⟨rfl, -⟩ := hv
  have hx := B.exec
  have hb := B.bytes
  have hr := B.returns
  have hts := atoms_spec (ws := vX6_commonOf) B.pre
  have hlk : ∀ w ∈ lkX6_commonOf, w.before _ s = true := fun w h => hts w (List.mem_cons_of_mem _ (List.mem_append_left _ h))
  have hown : s.vm.findClass RX6 = some m.cls := findClass_of_methodNamed B.named
  have hlocks := B.notSynchronized
  have hl := lv_entry ([.long p0, .long p1] : List Value) (n := 11) (Nat.le_of_ble_eq_true rfl)
  rw [lg_entry_eq]
  generalize (lg_sl ([.long p0, .long p1] : List Value) ++ List.replicate (11 - (lg_sl ([.long p0, .long p1] : List Value)).length) Slot.unset).toArray = ls at hl ⊢
  have hl : lv_has ls 11 [(0, .long p0), (2, .long p1)] := hl
  unfold fX6_commonOf at hF
  refine W_Q (fun Q hQ => ?_)
  refine lv_lload_n hx hb dX6_commonOf_0 rfl (lv_at hl 0 rfl) ?_
  refine lv_lstore (lv' := [(4, .long p0), (0, .long p0), (2, .long p1)]) hx hb dX6_commonOf_1 hl (by decide) rfl (fun ls hl => ?_)
  refine lv_lload_n hx hb dX6_commonOf_3 rfl (lv_at hl 2 rfl) ?_
  refine lv_lstore (lv' := [(6, .long p1), (4, .long p0), (0, .long p0), (2, .long p1)]) hx hb dX6_commonOf_4 hl (by decide) rfl (fun ls hl => ?_)
  refine lv_iconst (v := 0) hx hb dX6_commonOf_6 (by decide) ?_
  refine lv_istore (lv' := [(8, .int (0 : Int32)), (6, .long p1), (4, .long p0), (0, .long p0), (2, .long p1)]) hx hb dX6_commonOf_7 hl (by decide) rfl (fun ls hl => ?_)
  have hL9 : ∀ n : Nat, ∀ (x4_1 : Int64) (x6_2 : Int64) (x8_3 : Int32) (ls : Array Slot), lv_has ls 11 [(4, .long x4_1), (6, .long x6_2), (8, .int x8_3)] → fX6_commonOf_L9 n x4_1 x6_2 x8_3 = some ro → W p l e rmX6_commonOf s m ([.long p0, .long p1] : List Value).toArray below meth c s.heap [] 0 0 Q (F0 m 9 ls []) := by
    intro n
    induction n with
    | zero => intro x4_1 x6_2 x8_3 ls hl hF; rw [fX6_commonOf_L9] at hF; cases hF
    | succ n ih9 =>
      intro x4_1 x6_2 x8_3 ls hl hF
      rw [fX6_commonOf_L9] at hF
      refine lv_iload hx hb dX6_commonOf_9 (lv_at hl 2 rfl) ?_
      refine lv_sipush (v := (128)) hx hb dX6_commonOf_11 (by decide) ?_
      obtain ⟨k45, e_k45, hF⟩ := nm_ex hF
      have hk45 : ∀  (ls : Array Slot), lv_has ls 11 [(4, .long x4_1)] → k45 = some ro → W p l e rmX6_commonOf s m ([.long p0, .long p1] : List Value).toArray below meth c s.heap [] 0 0 Q (F0 m 45 ls []) := by
        intro ls hl hF
        have hF := ka0 e_k45 hF
        refine lv_lload hx hb dX6_commonOf_45 (lv_at hl 0 rfl) ?_
        have q0 := sm1 hF
        refine W_Qe hQ ?_
        exact W.lret hx hb hr (fun t ht hW => ⟨_, rfl, q0, ht⟩) (fun _ h9 => by cases h9) dX6_commonOf_47
      clear e_k45
      refine lv_icmp_ge (tgt := 45) hx hb dX6_commonOf_14 (by decide) (fun c0 => ?_) (fun c0 => ?_)
      · have hF := if_t hF c0
        exact hk45 ls (lv_sub hl [0] rfl) hF
      · have hF := if_f hF c0
        refine lv_lload hx hb dX6_commonOf_17 (lv_at hl 1 rfl) ?_
        refine lv_lconst (v := 0) hx hb dX6_commonOf_19 (by decide) ?_
        refine W.lcmp hx hb dX6_commonOf_20 ?_
        refine lv_if_eq (tgt := 45) hx hb dX6_commonOf_21 (by decide) (fun c0 => ?_) (fun c0 => ?_)
        · have c0 := (lg_cmp_eq _ _).mp c0
          have hF := if_t hF c0
          exact hk45 ls (lv_sub hl [0] rfl) hF
        · have c0 := (not_congr (lg_cmp_eq _ _)).mp c0
          have hF := if_f hF c0
          refine lv_lload hx hb dX6_commonOf_24 (lv_at hl 0 rfl) ?_
          refine lv_lload hx hb dX6_commonOf_26 (lv_at hl 1 rfl) ?_
          obtain ⟨hz, hF⟩ := ck_of hF
          refine lv_lrem hx hb dX6_commonOf_28 hz ?_
          refine lv_topl (fun x9_4 e_x9_4 => ?_)
          have hF := nm_at hF e_x9_4
          refine lv_lstore (lv' := [(9, .long x9_4), (4, .long x4_1), (6, .long x6_2), (8, .int x8_3)]) hx hb dX6_commonOf_29 hl (by decide) rfl (fun ls hl => ?_)
          refine lv_lload hx hb dX6_commonOf_31 (lv_at hl 2 rfl) ?_
          refine lv_lstore (lv' := [(4, .long x6_2), (9, .long x9_4), (6, .long x6_2), (8, .int x8_3)]) hx hb dX6_commonOf_33 hl (by decide) rfl (fun ls hl => ?_)
          refine lv_lload hx hb dX6_commonOf_35 (lv_at hl 1 rfl) ?_
          refine lv_lstore (lv' := [(6, .long x9_4), (4, .long x6_2), (9, .long x9_4), (8, .int x8_3)]) hx hb dX6_commonOf_37 hl (by decide) rfl (fun ls hl => ?_)
          obtain ⟨x8_5, e_x8_5, hF⟩ := nm_ex hF
          refine lv_iinc (v := x8_5) (lv' := [(8, .int x8_5), (6, .long x9_4), (4, .long x6_2), (9, .long x9_4)]) hx hb dX6_commonOf_39 hl (k := 3) rfl (by rw [e_x8_5]; rfl) (by decide) rfl (fun ls hl => ?_)
          refine lv_goto (tgt := 9) hx hb dX6_commonOf_42 (by decide) ?_
          exact ih9 x6_2 x9_4 x8_5 ls (lv_sub hl [2, 1, 0] rfl) hF
  exact hL9 fu p0 p1 (0 : Int32) ls (lv_sub hl [2, 1, 0] rfl) hF
def fX6_inLeastTerms (fu : Nat)  (p0 : Int64) (p1 : Int64) (p2 : Int32) : Option (Int64) :=
  bd1 (fX6_commonOf fu p0 p1) (fun (r_1 : Int64) => if (0 : Int64) < r_1 then (nm (fun (s_2 : Int64) => some s_2) (fun (k32 : (Int64) → Option (Int64)) => if p2 = 0 then (if ¬ r_1 = 0 then (k32 (p0 / r_1)) else none) else (if ¬ r_1 = 0 then (k32 (p1 / r_1)) else none))) else (some (0 : Int64)))
def lkX6_inLeastTerms : List Cond := []
def vX6_inLeastTerms : List Cond := .code yX6_inLeastTerms cX6_inLeastTerms 7 (some .long) :: (lkX6_inLeastTerms ++ (va_wsS RX6 213 yX6_commonOf vX6_commonOf ++ ([])))
theorem q_X6_inLeastTerms : ∀ w ∈ vX6_inLeastTerms, goodWord w = true := gd_cons rfl (gd_app (by decide +kernel) (gd_app (gd_S q_X6_commonOf) gd_nil))
theorem g_X6_inLeastTerms_X6_commonOf : GoodIn vX6_inLeastTerms (va_wsS RX6 213 yX6_commonOf vX6_commonOf) := gi_of (fun w h => List.mem_cons_of_mem _ (List.mem_append_right _ (List.mem_append_left _ h))) (gd_S q_X6_commonOf)
abbrev rmX6_inLeastTerms : Room := { frames := 1, cells := 0, slots := 0, locals := 30 }
set_option maxHeartbeats 4000000 in
set_option maxRecDepth 100000 in
theorem c_X6_inLeastTerms (l : Launch) (fu : Nat) (p0 : Int64) (p1 : Int64) (p2 : Int32) (ro : Int64) (hF : fX6_inLeastTerms fu p0 p1 p2 = some ro) : Met l yX6_inLeastTerms vX6_inLeastTerms rmX6_inLeastTerms (va_Pc [.long p0, .long p1, .int p2] (fun _ => True)) (vp_Sl (fun x => x = ro)) 0 0 (fun _ => False) := by
  refine Met.ofW (cc := cX6_inLeastTerms) (maxL := 7) (ret := (some .long)) (by decide) rfl ?_
  intro p e s m args below meth c s₁ B hml hv
  obtain ⟨rfl, -⟩ := hv
  have hx := B.exec
  have hb := B.bytes
  have hr := B.returns
  have hts := atoms_spec (ws := vX6_inLeastTerms) B.pre
  have hlk : ∀ w ∈ lkX6_inLeastTerms, w.before _ s = true := fun w h => hts w (List.mem_cons_of_mem _ (List.mem_append_left _ h))
  have hown : s.vm.findClass RX6 = some m.cls := findClass_of_methodNamed B.named
  have hlocks := B.notSynchronized
  have hl := lv_entry ([.long p0, .long p1, .int p2] : List Value) (n := 7) (Nat.le_of_ble_eq_true rfl)
  rw [lg_entry_eq]
  generalize (lg_sl ([.long p0, .long p1, .int p2] : List Value) ++ List.replicate (7 - (lg_sl ([.long p0, .long p1, .int p2] : List Value)).length) Slot.unset).toArray = ls at hl ⊢
  have hl : lv_has ls 7 [(0, .long p0), (2, .long p1), (4, .int p2)] := hl
  unfold fX6_inLeastTerms at hF
  refine W_Q (fun Q hQ => ?_)
  refine lv_lload_n hx hb dX6_inLeastTerms_0 rfl (lv_at hl 0 rfl) ?_
  refine lv_lload_n hx hb dX6_inLeastTerms_1 rfl (lv_at hl 1 rfl) ?_
  obtain ⟨r_1, hc, hF⟩ := bd1_of hF
  refine rc_l (va_runS (As := [.long p0, .long p1]) (rest := []) ⟨hx, hb, hml, hown, hts⟩ (c_X6_commonOf l fu p0 p1 r_1 hc) (va_cwS 2 hts g_X6_inLeastTerms_X6_commonOf rfl rfl rfl (by decide +kernel) ⟨Nat.le_of_ble_eq_true rfl, Nat.le_of_ble_eq_true rfl⟩) ⟨tPc_blind, tPc_at⟩ rfl rfl hl.1 rfl (lv_room (Nat.le_of_ble_eq_true rfl)) dX6_inLeastTerms_2 ⟨Nat.zero_le _, Nat.zero_le _⟩) ?_
  refine lv_lstore (lv' := [(5, .long r_1), (0, .long p0), (2, .long p1), (4, .int p2)]) hx hb dX6_inLeastTerms_5 hl (by decide) rfl (fun ls hl => ?_)
  refine lv_lload hx hb dX6_inLeastTerms_7 (lv_at hl 0 rfl) ?_
  refine lv_lconst (v := 0) hx hb dX6_inLeastTerms_9 (by decide) ?_
  refine W.lcmp hx hb dX6_inLeastTerms_10 ?_
  refine lv_if_gt (tgt := 16) hx hb dX6_inLeastTerms_11 (by decide) (fun c0 => ?_) (fun c0 => ?_)
  · have c0 := (lg_cmp_gt _ _).mp c0
    have hF := if_t hF c0
    refine lv_iload hx hb dX6_inLeastTerms_16 (lv_at hl 3 rfl) ?_
    obtain ⟨k32, e_k32, hF⟩ := nm_ex hF
    have hk32 : ∀ (s_2 : Int64) (ls : Array Slot), lv_has ls 7 [] → k32 s_2 = some ro → W p l e rmX6_inLeastTerms s m ([.long p0, .long p1, .int p2] : List Value).toArray below meth c s.heap [] 0 0 Q (F0 m 32 ls [.long s_2]) := by
      intro s_2 ls hl hF
      have hF := ka1 e_k32 hF
      have q0 := sm1 hF
      refine W_Qe hQ ?_
      exact W.lret hx hb hr (fun t ht hW => ⟨_, rfl, q0, ht⟩) (fun _ h9 => by cases h9) dX6_inLeastTerms_32
    clear e_k32
    refine lv_if_ne (tgt := 28) hx hb dX6_inLeastTerms_18 (by decide) (fun c0 => ?_) (fun c0 => ?_)
    · have hF := if_f hF c0
      refine lv_lload_n hx hb dX6_inLeastTerms_28 rfl (lv_at hl 2 rfl) ?_
      refine lv_lload hx hb dX6_inLeastTerms_29 (lv_at hl 0 rfl) ?_
      obtain ⟨hz, hF⟩ := ck_of hF
      refine lv_ldiv hx hb dX6_inLeastTerms_31 hz ?_
      exact hk32 (p1 / r_1) ls (lv_sub hl [] rfl) hF
    · have hF := if_t hF c0
      refine lv_lload_n hx hb dX6_inLeastTerms_21 rfl (lv_at hl 1 rfl) ?_
      refine lv_lload hx hb dX6_inLeastTerms_22 (lv_at hl 0 rfl) ?_
      obtain ⟨hz, hF⟩ := ck_of hF
      refine lv_ldiv hx hb dX6_inLeastTerms_24 hz ?_
      refine lv_goto (tgt := 32) hx hb dX6_inLeastTerms_25 (by decide) ?_
      exact hk32 (p0 / r_1) ls (lv_sub hl [] rfl) hF
  · have c0 := (not_congr (lg_cmp_gt _ _)).mp c0
    have hF := if_f hF c0
    refine lv_lconst (v := 0) hx hb dX6_inLeastTerms_14 (by decide) ?_
    have q0 := sm1 hF
    refine W_Qe hQ ?_
    exact W.lret hx hb hr (fun t ht hW => ⟨_, rfl, q0, ht⟩) (fun _ h9 => by cases h9) dX6_inLeastTerms_15
def fX5_rootOf_L6 (p0 : Int32) : Nat → (Int32) → (Int32) → Option (Int32)
  | 0, _, _ => none
  | n + 1, x1_1, x2_2 => if x2_2 ≤ 0 then (some x1_1) else (nm (fun (x1_4 : Int32) => nm (x2_2 >>> ((1 : Int32) &&& 31)) (fun (x2_5 : Int32) => (fX5_rootOf_L6 p0 n x1_4 x2_5))) (fun (k25 : (Int32) → Option (Int32)) => if p0 < ((x1_1 + x2_2) * (x1_1 + x2_2)) then ((k25 x1_1)) else (nm (x1_1 + x2_2) (fun (x1_3 : Int32) => (k25 x1_3)))))
def fX5_rootOf (fu : Nat)  (p0 : Int32) : Option (Int32) :=
  (fX5_rootOf_L6 p0 fu (0 : Int32) (16384 : Int32))
def lkX5_rootOf : List Cond := []
def vX5_rootOf : List Cond := .code yX5_rootOf cX5_rootOf 3 (some .int) :: (lkX5_rootOf ++ ([]))
theorem q_X5_rootOf : ∀ w ∈ vX5_rootOf, goodWord w = true := gd_cons rfl (gd_app (by decide +kernel) gd_nil)
abbrev rmX5_rootOf : Room := { frames := 0, cells := 0, slots := 0, locals := 0 }
set_option maxHeartbeats 4000000 in
set_option maxRecDepth 100000 in
theorem c_X5_rootOf (l : Launch) (fu : Nat) (p0 : Int32) (ro : Int32) (hF : fX5_rootOf fu p0 = some ro) : Met l yX5_rootOf vX5_rootOf rmX5_rootOf (va_Pc [.int p0] (fun _ => True)) (vp_Si (fun x => x = ro)) 0 0 (fun _ => False) := by
  refine Met.ofW (cc := cX5_rootOf) (maxL := 3) (ret := (some .int)) (by decide) rfl ?_
  intro p e s m args below meth c s₁ B hml hv
  obtain ⟨rfl, -⟩ := hv
  have hx := B.exec
  have hb := B.bytes
  have hr := B.returns
  have hts := atoms_spec (ws := vX5_rootOf) B.pre
  have hlk : ∀ w ∈ lkX5_rootOf, w.before _ s = true := fun w h => hts w (List.mem_cons_of_mem _ (List.mem_append_left _ h))
  have hown : s.vm.findClass RX5 = some m.cls := findClass_of_methodNamed B.named
  have hlocks := B.notSynchronized
  have hl := lv_entry ([.int p0] : List Value) (n := 3) (Nat.le_of_ble_eq_true rfl)
  rw [lg_entry_eq]
  generalize (lg_sl ([.int p0] : List Value) ++ List.replicate (3 - (lg_sl ([.int p0] : List Value)).length) Slot.unset).toArray = ls at hl ⊢
  have hl : lv_has ls 3 [(0, .int p0)] := hl
  unfold fX5_rootOf at hF
  refine W_Q (fun Q hQ => ?_)
  refine lv_iconst (v := 0) hx hb dX5_rootOf_0 (by decide) ?_
  refine lv_istore_n (lv' := [(1, .int (0 : Int32)), (0, .int p0)]) hx hb dX5_rootOf_1 rfl hl (by decide) rfl (fun ls hl => ?_)
  refine lv_sipush (v := (16384)) hx hb dX5_rootOf_2 (by decide) ?_
  refine lv_istore_n (lv' := [(2, .int (16384 : Int32)), (1, .int (0 : Int32)), (0, .int p0)]) hx hb dX5_rootOf_5 rfl hl (by decide) rfl (fun ls hl => ?_)
  have hL6 : ∀ n : Nat, ∀ (x1_1 : Int32) (x2_2 : Int32) (ls : Array Slot), lv_has ls 3 [(0, .int p0), (1, .int x1_1), (2, .int x2_2)] → fX5_rootOf_L6 p0 n x1_1 x2_2 = some ro → W p l e rmX5_rootOf s m ([.int p0] : List Value).toArray below meth c s.heap [] 0 0 Q (F0 m 6 ls []) := by
    intro n
    induction n with
    | zero => intro x1_1 x2_2 ls hl hF; rw [fX5_rootOf_L6] at hF; cases hF
    | succ n ih6 =>
      intro x1_1 x2_2 ls hl hF
      rw [fX5_rootOf_L6] at hF
      refine lv_iload_n hx hb dX5_rootOf_6 rfl (lv_at hl 2 rfl) ?_
      refine lv_if_le (tgt := 32) hx hb dX5_rootOf_7 (by decide) (fun c0 => ?_) (fun c0 => ?_)
      · have hF := if_t hF c0
        refine lv_iload_n hx hb dX5_rootOf_32 rfl (lv_at hl 1 rfl) ?_
        have q0 := sm1 hF
        refine W_Qe hQ ?_
        exact W.iret hx hb hr (fun t ht hW => ⟨_, rfl, q0, ht⟩) (fun _ h9 => by cases h9) dX5_rootOf_33
      · have hF := if_f hF c0
        refine lv_iload_n hx hb dX5_rootOf_10 rfl (lv_at hl 1 rfl) ?_
        refine lv_iload_n hx hb dX5_rootOf_11 rfl (lv_at hl 2 rfl) ?_
        refine lv_iadd hx hb dX5_rootOf_12 ?_
        refine lv_iload_n hx hb dX5_rootOf_13 rfl (lv_at hl 1 rfl) ?_
        refine lv_iload_n hx hb dX5_rootOf_14 rfl (lv_at hl 2 rfl) ?_
        refine lv_iadd hx hb dX5_rootOf_15 ?_
        refine lv_imul hx hb dX5_rootOf_16 ?_
        refine lv_iload_n hx hb dX5_rootOf_17 rfl (lv_at hl 0 rfl) ?_
        obtain ⟨k25, e_k25, hF⟩ := nm_ex hF
        have hk25 : ∀ (x1_4 : Int32) (ls : Array Slot), lv_has ls 3 [(0, .int p0), (1, .int x1_4), (2, .int x2_2)] → k25 x1_4 = some ro → W p l e rmX5_rootOf s m ([.int p0] : List Value).toArray below meth c s.heap [] 0 0 Q (F0 m 25 ls []) := by
          intro x1_4 ls hl hF
          have hF := ka1 e_k25 hF
          refine lv_iload_n hx hb dX5_rootOf_25 rfl (lv_at hl 2 rfl) ?_
          refine lv_iconst (v := 1) hx hb dX5_rootOf_26 (by decide) ?_
          refine lv_ishr hx hb dX5_rootOf_27 ?_
          refine lv_topi (fun x2_5 e_x2_5 => ?_)
          have hF := nm_at hF e_x2_5
          refine lv_istore_n (lv' := [(2, .int x2_5), (0, .int p0), (1, .int x1_4)]) hx hb dX5_rootOf_28 rfl hl (by decide) rfl (fun ls hl => ?_)
          refine lv_goto (tgt := 6) hx hb dX5_rootOf_29 (by decide) ?_
          exact ih6 x1_4 x2_5 ls (lv_sub hl [1, 2, 0] rfl) hF
        clear e_k25
        refine lv_icmp_gt (tgt := 25) hx hb dX5_rootOf_18 (by decide) (fun c0 => ?_) (fun c0 => ?_)
        · have hF := if_t hF c0
          exact hk25 x1_1 ls (lv_sub hl [0, 1, 2] rfl) hF
        · have hF := if_f hF c0
          refine lv_iload_n hx hb dX5_rootOf_21 rfl (lv_at hl 1 rfl) ?_
          refine lv_iload_n hx hb dX5_rootOf_22 rfl (lv_at hl 2 rfl) ?_
          refine lv_iadd hx hb dX5_rootOf_23 ?_
          refine lv_topi (fun x1_3 e_x1_3 => ?_)
          have hF := nm_at hF e_x1_3
          refine lv_istore_n (lv' := [(1, .int x1_3), (0, .int p0), (2, .int x2_2)]) hx hb dX5_rootOf_24 rfl hl (by decide) rfl (fun ls hl => ?_)
          exact hk25 x1_3 ls (lv_sub hl [1, 0, 2] rfl) hF
  exact hL6 fu (0 : Int32) (16384 : Int32) ls (lv_sub hl [2, 1, 0] rfl) hF
def fX4_discOf (six : Nat → Int32)  : Option (Int32) :=
  nm ((((((((4 : Int32) * (six 0)) * (six 1)) * (six 2)) + (((six 3) * (six 4)) * (six 5))) - (((six 0) * (six 3)) * (six 3))) - (((six 1) * (six 4)) * (six 4))) - (((six 2) * (six 5)) * (six 5))) (fun (v_1 : Int32) => some v_1)
def lkX4_discOf : List Cond := []
def vX4_discOf : List Cond := .code yX4_discOf cX4_discOf 1 (some .int) :: (lkX4_discOf ++ ([]))
theorem q_X4_discOf : ∀ w ∈ vX4_discOf, goodWord w = true := gd_cons rfl (gd_app (by decide +kernel) gd_nil)
abbrev rmX4_discOf : Room := { frames := 0, cells := 0, slots := 0, locals := 0 }
set_option maxHeartbeats 4000000 in
set_option maxRecDepth 100000 in
theorem c_X4_discOf (l : Launch) (dC : Nat → ClassId) (dI : Nat → Nat → Nat) (cI : ClassId) (b : Nat) (six : Nat → Int32)  (ro : Int32) (hF : fX4_discOf six = some ro) : Met l yX4_discOf vX4_discOf rmX4_discOf (va_Pc [.ref b] (rPk (dC, dI) vwCl (sW1 cI b six) [(cI, .int)])) (vp_Si (fun x => x = ro)) 0 0 (fun _ => False) := by
  refine Met.ofW (cc := cX4_discOf) (maxL := 1) (ret := (some .int)) (by decide) rfl ?_
  intro p e s m args below meth c s₁ B hml hv
  obtain ⟨rfl, hP, hK, hN⟩ := hv
  have hx := B.exec
  have hb := B.bytes
  have hr := B.returns
  have hts := atoms_spec (ws := vX4_discOf) B.pre
  have hlk : ∀ w ∈ lkX4_discOf, w.before _ s = true := fun w h => hts w (List.mem_cons_of_mem _ (List.mem_append_left _ h))
  have hown : s.vm.findClass RX4 = some m.cls := findClass_of_methodNamed B.named
  have hlocks := B.notSynchronized
  have hl := lv_entry ([.ref b] : List Value) (n := 1) (Nat.le_of_ble_eq_true rfl)
  rw [lg_entry_eq]
  generalize (lg_sl ([.ref b] : List Value) ++ List.replicate (1 - (lg_sl ([.ref b] : List Value)).length) Slot.unset).toArray = ls at hl ⊢
  have hl : lv_has ls 1 [(0, .ref b)] := hl
  unfold fX4_discOf at hF
  refine W_Q (fun Q hQ => ?_)
  refine lv_iconst (v := 4) hx hb dX4_discOf_0 (by decide) ?_
  refine lv_aload_n hx hb dX4_discOf_1 rfl (lv_at hl 0 rfl) ?_
  refine lv_iconst (v := 0) hx hb dX4_discOf_2 (by decide) ?_
  refine kc_iald (j := 0) hx hb hK hP 0 0 rfl rfl (by decide) (by decide) dX4_discOf_3 ?_
  refine lv_imul hx hb dX4_discOf_4 ?_
  refine lv_aload_n hx hb dX4_discOf_5 rfl (lv_at hl 0 rfl) ?_
  refine lv_iconst (v := 1) hx hb dX4_discOf_6 (by decide) ?_
  refine kc_iald (j := 1) hx hb hK hP 0 0 rfl rfl (by decide) (by decide) dX4_discOf_7 ?_
  refine lv_imul hx hb dX4_discOf_8 ?_
  refine lv_aload_n hx hb dX4_discOf_9 rfl (lv_at hl 0 rfl) ?_
  refine lv_iconst (v := 2) hx hb dX4_discOf_10 (by decide) ?_
  refine kc_iald (j := 2) hx hb hK hP 0 0 rfl rfl (by decide) (by decide) dX4_discOf_11 ?_
  refine lv_imul hx hb dX4_discOf_12 ?_
  refine lv_aload_n hx hb dX4_discOf_13 rfl (lv_at hl 0 rfl) ?_
  refine lv_iconst (v := 3) hx hb dX4_discOf_14 (by decide) ?_
  refine kc_iald (j := 3) hx hb hK hP 0 0 rfl rfl (by decide) (by decide) dX4_discOf_15 ?_
  refine lv_aload_n hx hb dX4_discOf_16 rfl (lv_at hl 0 rfl) ?_
  refine lv_iconst (v := 4) hx hb dX4_discOf_17 (by decide) ?_
  refine kc_iald (j := 4) hx hb hK hP 0 0 rfl rfl (by decide) (by decide) dX4_discOf_18 ?_
  refine lv_imul hx hb dX4_discOf_19 ?_
  refine lv_aload_n hx hb dX4_discOf_20 rfl (lv_at hl 0 rfl) ?_
  refine lv_iconst (v := 5) hx hb dX4_discOf_21 (by decide) ?_
  refine kc_iald (j := 5) hx hb hK hP 0 0 rfl rfl (by decide) (by decide) dX4_discOf_22 ?_
  refine lv_imul hx hb dX4_discOf_23 ?_
  refine lv_iadd hx hb dX4_discOf_24 ?_
  refine lv_aload_n hx hb dX4_discOf_25 rfl (lv_at hl 0 rfl) ?_
  refine lv_iconst (v := 0) hx hb dX4_discOf_26 (by decide) ?_
  refine kc_iald (j := 0) hx hb hK hP 0 0 rfl rfl (by decide) (by decide) dX4_discOf_27 ?_
  refine lv_aload_n hx hb dX4_discOf_28 rfl (lv_at hl 0 rfl) ?_
  refine lv_iconst (v := 3) hx hb dX4_discOf_29 (by decide) ?_
  refine kc_iald (j := 3) hx hb hK hP 0 0 rfl rfl (by decide) (by decide) dX4_discOf_30 ?_
  refine lv_imul hx hb dX4_discOf_31 ?_
  refine lv_aload_n hx hb dX4_discOf_32 rfl (lv_at hl 0 rfl) ?_
  refine lv_iconst (v := 3) hx hb dX4_discOf_33 (by decide) ?_
  refine kc_iald (j := 3) hx hb hK hP 0 0 rfl rfl (by decide) (by decide) dX4_discOf_34 ?_
  refine lv_imul hx hb dX4_discOf_35 ?_
  refine lv_isub hx hb dX4_discOf_36 ?_
  refine lv_aload_n hx hb dX4_discOf_37 rfl (lv_at hl 0 rfl) ?_
  refine lv_iconst (v := 1) hx hb dX4_discOf_38 (by decide) ?_
  refine kc_iald (j := 1) hx hb hK hP 0 0 rfl rfl (by decide) (by decide) dX4_discOf_39 ?_
  refine lv_aload_n hx hb dX4_discOf_40 rfl (lv_at hl 0 rfl) ?_
  refine lv_iconst (v := 4) hx hb dX4_discOf_41 (by decide) ?_
  refine kc_iald (j := 4) hx hb hK hP 0 0 rfl rfl (by decide) (by decide) dX4_discOf_42 ?_
  refine lv_imul hx hb dX4_discOf_43 ?_
  refine lv_aload_n hx hb dX4_discOf_44 rfl (lv_at hl 0 rfl) ?_
  refine lv_iconst (v := 4) hx hb dX4_discOf_45 (by decide) ?_
  refine kc_iald (j := 4) hx hb hK hP 0 0 rfl rfl (by decide) (by decide) dX4_discOf_46 ?_
  refine lv_imul hx hb dX4_discOf_47 ?_
  refine lv_isub hx hb dX4_discOf_48 ?_
  refine lv_aload_n hx hb dX4_discOf_49 rfl (lv_at hl 0 rfl) ?_
  refine lv_iconst (v := 2) hx hb dX4_discOf_50 (by decide) ?_
  refine kc_iald (j := 2) hx hb hK hP 0 0 rfl rfl (by decide) (by decide) dX4_discOf_51 ?_
  refine lv_aload_n hx hb dX4_discOf_52 rfl (lv_at hl 0 rfl) ?_
  refine lv_iconst (v := 5) hx hb dX4_discOf_53 (by decide) ?_
  refine kc_iald (j := 5) hx hb hK hP 0 0 rfl rfl (by decide) (by decide) dX4_discOf_54 ?_
  refine lv_imul hx hb dX4_discOf_55 ?_
  refine lv_aload_n hx hb dX4_discOf_56 rfl (lv_at hl 0 rfl) ?_
  refine lv_iconst (v := 5) hx hb dX4_discOf_57 (by decide) ?_
  refine kc_iald (j := 5) hx hb hK hP 0 0 rfl rfl (by decide) (by decide) dX4_discOf_58 ?_
  refine lv_imul hx hb dX4_discOf_59 ?_
  refine lv_isub hx hb dX4_discOf_60 ?_
  refine lv_topi (fun v_1 e_v_1 => ?_)
  have hF := nm_at hF e_v_1
  have q0 := sm1 hF
  refine W_Qe hQ ?_
  exact W.iret hx hb hr (fun t ht hW => ⟨_, rfl, q0, ht⟩) (fun _ h9 => by cases h9) dX4_discOf_61
def fX4_isForm_L2 (k42 : Option (Int32)) (six : Nat → Int32) : Nat → (Int32) → Option (Int32)
  | 0, _ => none
  | n + 1, x1_1 => if (3 : Int32) ≤ x1_1 then ((k42)) else (if okI x1_1 6 then bd1 (fX6_isOutside (six x1_1.toNatClampNeg) (1 : Int32) (12 : Int32)) (fun (r_2 : Int32) => nm (some (0 : Int32)) (fun (k34 : Option (Int32)) => if r_2 = 0 then (nm ((3 : Int32) + x1_1) (fun (v_3 : Int32) => if okI v_3 6 then bd1 (fX6_isOutside (six v_3.toNatClampNeg) (-12 : Int32) (12 : Int32)) (fun (r_4 : Int32) => if r_4 = 0 then (nm (x1_1 + (1 : Int32)) (fun (x1_5 : Int32) => (fX4_isForm_L2 k42 six n x1_5))) else ((k34))) else none)) else ((k34)))) else none)
def fX4_isForm (fu : Nat) (six : Nat → Int32)  : Option (Int32) :=
  nm (nm (fun (s_7 : Int32) => if s_7 = 0 ∨ s_7 = 1 then some s_7 else none) (fun (k74 : (Int32) → Option (Int32)) => nm ((k74 (0 : Int32))) (fun (k73 : Option (Int32)) => if ((((4 : Int32) * (six 0)) * (six 1)) - ((six 5) * (six 5))) ≤ 0 then ((k73)) else (bd1 (fX4_discOf six) (fun (r_6 : Int32) => if r_6 ≤ 0 then ((k73)) else ((k74 (1 : Int32)))))))) (fun (k42 : Option (Int32)) => (fX4_isForm_L2 k42 six fu (0 : Int32)))
def lkX4_isForm : List Cond := [.initialized RX6, .static yX6_isOutside]
def vX4_isForm : List Cond := .code yX4_isForm cX4_isForm 2 (some .boolean) :: (lkX4_isForm ++ (vX6_isOutside ++ (va_wsS RX4 13 yX4_discOf vX4_discOf ++ ([]))))
theorem q_X4_isForm : ∀ w ∈ vX4_isForm, goodWord w = true := gd_cons rfl (gd_app (by decide +kernel) (gd_app q_X6_isOutside (gd_app (gd_S q_X4_discOf) gd_nil)))
theorem g_X4_isForm_X6_isOutside : GoodIn vX4_isForm (vX6_isOutside) := gi_of (fun w h => List.mem_cons_of_mem _ (List.mem_append_right _ (List.mem_append_left _ h))) q_X6_isOutside
theorem g_X4_isForm_X4_discOf : GoodIn vX4_isForm (va_wsS RX4 13 yX4_discOf vX4_discOf) := gi_of (fun w h => List.mem_cons_of_mem _ (List.mem_append_right _ (List.mem_append_right _ (List.mem_append_left _ h)))) (gd_S q_X4_discOf)
abbrev rmX4_isForm : Room := { frames := 1, cells := 0, slots := 0, locals := 22 }
set_option maxHeartbeats 4000000 in
set_option maxRecDepth 100000 in
theorem c_X4_isForm (l : Launch) (dC : Nat → ClassId) (dI : Nat → Nat → Nat) (cI : ClassId) (b : Nat) (fu : Nat) (six : Nat → Int32)  (ro : Int32) (hF : fX4_isForm fu six = some ro) : Met l yX4_isForm vX4_isForm rmX4_isForm (va_Pc [.ref b] (rPk (dC, dI) vwCl (sW1 cI b six) [(cI, .int)])) (vp_Si (fun x => x = ro)) 0 0 (fun _ => False) := by
  refine Met.ofW (cc := cX4_isForm) (maxL := 2) (ret := (some .boolean)) (by decide) rfl ?_
  intro p e s m args below meth c s₁ B hml hv
  obtain ⟨rfl, hP, hK, hN⟩ := hv
  have hx := B.exec
  have hb := B.bytes
  have hr := B.returns
  have hts := atoms_spec (ws := vX4_isForm) B.pre
  have hlk : ∀ w ∈ lkX4_isForm, w.before _ s = true := fun w h => hts w (List.mem_cons_of_mem _ (List.mem_append_left _ h))
  have hown : s.vm.findClass RX4 = some m.cls := findClass_of_methodNamed B.named
  have hlocks := B.notSynchronized
  have hl := lv_entry ([.ref b] : List Value) (n := 2) (Nat.le_of_ble_eq_true rfl)
  rw [lg_entry_eq]
  generalize (lg_sl ([.ref b] : List Value) ++ List.replicate (2 - (lg_sl ([.ref b] : List Value)).length) Slot.unset).toArray = ls at hl ⊢
  have hl : lv_has ls 2 [(0, .ref b)] := hl
  unfold fX4_isForm at hF
  refine W_Q (fun Q hQ => ?_)
  refine lv_iconst (v := 0) hx hb dX4_isForm_0 (by decide) ?_
  refine lv_istore_n (lv' := [(1, .int (0 : Int32)), (0, .ref b)]) hx hb dX4_isForm_1 rfl hl (by decide) rfl (fun ls hl => ?_)
  obtain ⟨k42, e_k42, hF⟩ := nm_ex hF
  have hk42 : ∀  (ls : Array Slot), lv_has ls 2 [(0, .ref b)] → k42 = some ro → W p l e rmX4_isForm s m ([.ref b] : List Value).toArray below meth c s.heap [] 0 0 Q (F0 m 42 ls []) := by
    intro ls hl hF
    have hF := ka0 e_k42 hF
    refine lv_iconst (v := 4) hx hb dX4_isForm_42 (by decide) ?_
    refine lv_aload_n hx hb dX4_isForm_43 rfl (lv_at hl 0 rfl) ?_
    refine lv_iconst (v := 0) hx hb dX4_isForm_44 (by decide) ?_
    refine kc_iald (j := 0) hx hb hK hP 0 0 rfl rfl (by decide) (by decide) dX4_isForm_45 ?_
    refine lv_imul hx hb dX4_isForm_46 ?_
    refine lv_aload_n hx hb dX4_isForm_47 rfl (lv_at hl 0 rfl) ?_
    refine lv_iconst (v := 1) hx hb dX4_isForm_48 (by decide) ?_
    refine kc_iald (j := 1) hx hb hK hP 0 0 rfl rfl (by decide) (by decide) dX4_isForm_49 ?_
    refine lv_imul hx hb dX4_isForm_50 ?_
    refine lv_aload_n hx hb dX4_isForm_51 rfl (lv_at hl 0 rfl) ?_
    refine lv_iconst (v := 5) hx hb dX4_isForm_52 (by decide) ?_
    refine kc_iald (j := 5) hx hb hK hP 0 0 rfl rfl (by decide) (by decide) dX4_isForm_53 ?_
    refine lv_aload_n hx hb dX4_isForm_54 rfl (lv_at hl 0 rfl) ?_
    refine lv_iconst (v := 5) hx hb dX4_isForm_55 (by decide) ?_
    refine kc_iald (j := 5) hx hb hK hP 0 0 rfl rfl (by decide) (by decide) dX4_isForm_56 ?_
    refine lv_imul hx hb dX4_isForm_57 ?_
    refine lv_isub hx hb dX4_isForm_58 ?_
    obtain ⟨k74, e_k74, hF⟩ := nm_ex hF
    have hk74 : ∀ (s_7 : Int32) (ls : Array Slot), lv_has ls 2 [] → k74 s_7 = some ro → W p l e rmX4_isForm s m ([.ref b] : List Value).toArray below meth c s.heap [] 0 0 Q (F0 m 74 ls [.int s_7]) := by
      intro s_7 ls hl hF
      have hF := ka1 e_k74 hF
      obtain ⟨hz, hF⟩ := ck_of hF
      have q0 := sm1 hF
      refine W_Qe hQ ?_
      exact W.zret (ty := .boolean) hx hb hr (nz_bool hz) (fun t ht hW => ⟨_, rfl, q0, ht⟩) (fun _ h9 => by cases h9) dX4_isForm_74
    clear e_k74
    obtain ⟨k73, e_k73, hF⟩ := nm_ex hF
    have hk73 : ∀  (ls : Array Slot), lv_has ls 2 [] → k73 = some ro → W p l e rmX4_isForm s m ([.ref b] : List Value).toArray below meth c s.heap [] 0 0 Q (F0 m 73 ls []) := by
      intro ls hl hF
      have hF := ka0 e_k73 hF
      refine lv_iconst (v := 0) hx hb dX4_isForm_73 (by decide) ?_
      exact hk74 (0 : Int32) ls (lv_sub hl [] rfl) hF
    clear e_k73
    refine lv_if_le (tgt := 73) hx hb dX4_isForm_59 (by decide) (fun c0 => ?_) (fun c0 => ?_)
    · have hF := if_t hF c0
      exact hk73 ls (lv_sub hl [] rfl) hF
    · have hF := if_f hF c0
      refine lv_aload_n hx hb dX4_isForm_62 rfl (lv_at hl 0 rfl) ?_
      obtain ⟨r_6, hc, hF⟩ := bd1_of hF
      refine rc_i (va_runS (As := [.ref b]) (rest := []) ⟨hx, hb, hml, hown, hts⟩ (c_X4_discOf l dC dI cI b six  r_6 hc) (va_cwS 1 hts g_X4_isForm_X4_discOf rfl rfl rfl (by decide +kernel) ⟨Nat.le_of_ble_eq_true rfl, Nat.le_of_ble_eq_true rfl⟩) ⟨rPk_blind, rPk_at hK hP hN⟩ rfl rfl hl.1 rfl (lv_room (Nat.le_of_ble_eq_true rfl)) dX4_isForm_63 ⟨Nat.zero_le _, Nat.zero_le _⟩) ?_
      refine lv_if_le (tgt := 73) hx hb dX4_isForm_66 (by decide) (fun c0 => ?_) (fun c0 => ?_)
      · have hF := if_t hF c0
        exact hk73 ls (lv_sub hl [] rfl) hF
      · have hF := if_f hF c0
        refine lv_iconst (v := 1) hx hb dX4_isForm_69 (by decide) ?_
        refine lv_goto (tgt := 74) hx hb dX4_isForm_70 (by decide) ?_
        exact hk74 (1 : Int32) ls (lv_sub hl [] rfl) hF
  clear e_k42
  have hL2 : ∀ n : Nat, ∀ (x1_1 : Int32) (ls : Array Slot), lv_has ls 2 [(0, .ref b), (1, .int x1_1)] → fX4_isForm_L2 k42 six n x1_1 = some ro → W p l e rmX4_isForm s m ([.ref b] : List Value).toArray below meth c s.heap [] 0 0 Q (F0 m 2 ls []) := by
    intro n
    induction n with
    | zero => intro x1_1 ls hl hF; rw [fX4_isForm_L2] at hF; cases hF
    | succ n ih2 =>
      intro x1_1 ls hl hF
      rw [fX4_isForm_L2] at hF
      refine lv_iload_n hx hb dX4_isForm_2 rfl (lv_at hl 1 rfl) ?_
      refine lv_iconst (v := 3) hx hb dX4_isForm_3 (by decide) ?_
      refine lv_icmp_ge (tgt := 42) hx hb dX4_isForm_4 (by decide) (fun c0 => ?_) (fun c0 => ?_)
      · have hF := if_t hF c0
        exact hk42 ls (lv_sub hl [0] rfl) hF
      · have hF := if_f hF c0
        refine lv_aload_n hx hb dX4_isForm_7 rfl (lv_at hl 0 rfl) ?_
        refine lv_iload_n hx hb dX4_isForm_8 rfl (lv_at hl 1 rfl) ?_
        obtain ⟨hi, hF⟩ := ck_of hF
        refine va_iald hx hb hK hP 0 0 rfl rfl hi dX4_isForm_9 ?_
        refine lv_iconst (v := 1) hx hb dX4_isForm_10 (by decide) ?_
        refine lv_bipush (v := (12)) hx hb dX4_isForm_11 (by decide) ?_
        obtain ⟨r_2, hc, hF⟩ := bd1_of hF
        refine rc_i (va_runSN (As := [.int (six x1_1.toNatClampNeg), .int (1 : Int32), .int (12 : Int32)]) (rest := []) ⟨hx, hb, hml, hown, hts⟩ (c_X6_isOutside l (six x1_1.toNatClampNeg) (1 : Int32) (12 : Int32) r_2 hc) ⟨va_cnB 3 hts g_X4_isForm_X6_isOutside rfl rfl rfl (hN.2 (RX4, 7, yX6_isOutside, "KinForms") (by decide +kernel)) (hlk (.initialized RX6) (by decide +kernel)) (by decide +kernel) ⟨Nat.le_of_ble_eq_true rfl, Nat.le_of_ble_eq_true rfl⟩, hlk (.static yX6_isOutside) (by decide +kernel), trivial⟩ ⟨tPc_blind, tPc_at⟩ rfl rfl hl.1 rfl (lv_room (Nat.le_of_ble_eq_true rfl)) dX4_isForm_13 ⟨Nat.zero_le _, Nat.zero_le _⟩) ?_
        obtain ⟨k34, e_k34, hF⟩ := nm_ex hF
        have hk34 : ∀  (ls : Array Slot), lv_has ls 2 [] → k34 = some ro → W p l e rmX4_isForm s m ([.ref b] : List Value).toArray below meth c s.heap [] 0 0 Q (F0 m 34 ls []) := by
          intro ls hl hF
          have hF := ka0 e_k34 hF
          refine lv_iconst (v := 0) hx hb dX4_isForm_34 (by decide) ?_
          have q0 := sm1 hF
          refine W_Qe hQ ?_
          exact W.zret (ty := .boolean) hx hb hr (nz_bool (by decide)) (fun t ht hW => ⟨_, rfl, q0, ht⟩) (fun _ h9 => by cases h9) dX4_isForm_35
        clear e_k34
        refine lv_if_ne (tgt := 34) hx hb dX4_isForm_16 (by decide) (fun c0 => ?_) (fun c0 => ?_)
        · have hF := if_f hF c0
          exact hk34 ls (lv_sub hl [] rfl) hF
        · have hF := if_t hF c0
          refine lv_aload_n hx hb dX4_isForm_19 rfl (lv_at hl 0 rfl) ?_
          refine lv_iconst (v := 3) hx hb dX4_isForm_20 (by decide) ?_
          refine lv_iload_n hx hb dX4_isForm_21 rfl (lv_at hl 1 rfl) ?_
          refine lv_iadd hx hb dX4_isForm_22 ?_
          refine lv_topi (fun v_3 e_v_3 => ?_)
          have hF := nm_at hF e_v_3
          obtain ⟨hi, hF⟩ := ck_of hF
          refine va_iald hx hb hK hP 0 0 rfl rfl hi dX4_isForm_23 ?_
          refine lv_bipush (v := (-12)) hx hb dX4_isForm_24 (by decide) ?_
          refine lv_bipush (v := (12)) hx hb dX4_isForm_26 (by decide) ?_
          obtain ⟨r_4, hc, hF⟩ := bd1_of hF
          refine rc_i (va_runSN (As := [.int (six v_3.toNatClampNeg), .int (-12 : Int32), .int (12 : Int32)]) (rest := []) ⟨hx, hb, hml, hown, hts⟩ (c_X6_isOutside l (six v_3.toNatClampNeg) (-12 : Int32) (12 : Int32) r_4 hc) ⟨va_cnB 3 hts g_X4_isForm_X6_isOutside rfl rfl rfl (hN.2 (RX4, 7, yX6_isOutside, "KinForms") (by decide +kernel)) (hlk (.initialized RX6) (by decide +kernel)) (by decide +kernel) ⟨Nat.le_of_ble_eq_true rfl, Nat.le_of_ble_eq_true rfl⟩, hlk (.static yX6_isOutside) (by decide +kernel), trivial⟩ ⟨tPc_blind, tPc_at⟩ rfl rfl hl.1 rfl (lv_room (Nat.le_of_ble_eq_true rfl)) dX4_isForm_28 ⟨Nat.zero_le _, Nat.zero_le _⟩) ?_
          refine lv_if_eq (tgt := 36) hx hb dX4_isForm_31 (by decide) (fun c0 => ?_) (fun c0 => ?_)
          · have hF := if_t hF c0
            obtain ⟨x1_5, e_x1_5, hF⟩ := nm_ex hF
            refine lv_iinc (v := x1_5) (lv' := [(1, .int x1_5), (0, .ref b)]) hx hb dX4_isForm_36 hl (k := 1) rfl (by rw [e_x1_5]; rfl) (by decide) rfl (fun ls hl => ?_)
            refine lv_goto (tgt := 2) hx hb dX4_isForm_39 (by decide) ?_
            exact ih2 x1_5 ls (lv_sub hl [1, 0] rfl) hF
          · have hF := if_f hF c0
            exact hk34 ls (lv_sub hl [] rfl) hF
  exact hL2 fu (0 : Int32) ls (lv_sub hl [1, 0] rfl) hF
def fX4_at (six : Nat → Int32) (p1 : Int32) (p2 : Int32) (p3 : Int32) : Option (Int32) :=
  nm (((p1 * ((((six 0) * p1) + ((six 5) * p2)) + ((six 4) * p3))) + (p2 * (((six 1) * p2) + ((six 3) * p3)))) + (((six 2) * p3) * p3)) (fun (v_1 : Int32) => some v_1)
def lkX4_at : List Cond := []
def vX4_at : List Cond := .code yX4_at cX4_at 4 (some .int) :: (lkX4_at ++ ([]))
theorem q_X4_at : ∀ w ∈ vX4_at, goodWord w = true := gd_cons rfl (gd_app (by decide +kernel) gd_nil)
abbrev rmX4_at : Room := { frames := 0, cells := 0, slots := 0, locals := 0 }
set_option maxHeartbeats 4000000 in
set_option maxRecDepth 100000 in
theorem c_X4_at (l : Launch) (dC : Nat → ClassId) (dI : Nat → Nat → Nat) (cI : ClassId) (b : Nat) (six : Nat → Int32) (p1 : Int32) (p2 : Int32) (p3 : Int32) (ro : Int32) (hF : fX4_at six p1 p2 p3 = some ro) : Met l yX4_at vX4_at rmX4_at (va_Pc [.ref b, .int p1, .int p2, .int p3] (rPk (dC, dI) vwCl (sW1 cI b six) [(cI, .int)])) (vp_Si (fun x => x = ro)) 0 0 (fun _ => False) := by
  refine Met.ofW (cc := cX4_at) (maxL := 4) (ret := (some .int)) (by decide) rfl ?_
  intro p e s m args below meth c s₁ B hml hv
  obtain ⟨rfl, hP, hK, hN⟩ := hv
  have hx := B.exec
  have hb := B.bytes
  have hr := B.returns
  have hts := atoms_spec (ws := vX4_at) B.pre
  have hlk : ∀ w ∈ lkX4_at, w.before _ s = true := fun w h => hts w (List.mem_cons_of_mem _ (List.mem_append_left _ h))
  have hown : s.vm.findClass RX4 = some m.cls := findClass_of_methodNamed B.named
  have hlocks := B.notSynchronized
  have hl := lv_entry ([.ref b, .int p1, .int p2, .int p3] : List Value) (n := 4) (Nat.le_of_ble_eq_true rfl)
  rw [lg_entry_eq]
  generalize (lg_sl ([.ref b, .int p1, .int p2, .int p3] : List Value) ++ List.replicate (4 - (lg_sl ([.ref b, .int p1, .int p2, .int p3] : List Value)).length) Slot.unset).toArray = ls at hl ⊢
  have hl : lv_has ls 4 [(0, .ref b), (1, .int p1), (2, .int p2), (3, .int p3)] := hl
  unfold fX4_at at hF
  refine W_Q (fun Q hQ => ?_)
  refine lv_iload_n hx hb dX4_at_0 rfl (lv_at hl 1 rfl) ?_
  refine lv_aload_n hx hb dX4_at_1 rfl (lv_at hl 0 rfl) ?_
  refine lv_iconst (v := 0) hx hb dX4_at_2 (by decide) ?_
  refine kc_iald (j := 0) hx hb hK hP 0 0 rfl rfl (by decide) (by decide) dX4_at_3 ?_
  refine lv_iload_n hx hb dX4_at_4 rfl (lv_at hl 1 rfl) ?_
  refine lv_imul hx hb dX4_at_5 ?_
  refine lv_aload_n hx hb dX4_at_6 rfl (lv_at hl 0 rfl) ?_
  refine lv_iconst (v := 5) hx hb dX4_at_7 (by decide) ?_
  refine kc_iald (j := 5) hx hb hK hP 0 0 rfl rfl (by decide) (by decide) dX4_at_8 ?_
  refine lv_iload_n hx hb dX4_at_9 rfl (lv_at hl 2 rfl) ?_
  refine lv_imul hx hb dX4_at_10 ?_
  refine lv_iadd hx hb dX4_at_11 ?_
  refine lv_aload_n hx hb dX4_at_12 rfl (lv_at hl 0 rfl) ?_
  refine lv_iconst (v := 4) hx hb dX4_at_13 (by decide) ?_
  refine kc_iald (j := 4) hx hb hK hP 0 0 rfl rfl (by decide) (by decide) dX4_at_14 ?_
  refine lv_iload_n hx hb dX4_at_15 rfl (lv_at hl 3 rfl) ?_
  refine lv_imul hx hb dX4_at_16 ?_
  refine lv_iadd hx hb dX4_at_17 ?_
  refine lv_imul hx hb dX4_at_18 ?_
  refine lv_iload_n hx hb dX4_at_19 rfl (lv_at hl 2 rfl) ?_
  refine lv_aload_n hx hb dX4_at_20 rfl (lv_at hl 0 rfl) ?_
  refine lv_iconst (v := 1) hx hb dX4_at_21 (by decide) ?_
  refine kc_iald (j := 1) hx hb hK hP 0 0 rfl rfl (by decide) (by decide) dX4_at_22 ?_
  refine lv_iload_n hx hb dX4_at_23 rfl (lv_at hl 2 rfl) ?_
  refine lv_imul hx hb dX4_at_24 ?_
  refine lv_aload_n hx hb dX4_at_25 rfl (lv_at hl 0 rfl) ?_
  refine lv_iconst (v := 3) hx hb dX4_at_26 (by decide) ?_
  refine kc_iald (j := 3) hx hb hK hP 0 0 rfl rfl (by decide) (by decide) dX4_at_27 ?_
  refine lv_iload_n hx hb dX4_at_28 rfl (lv_at hl 3 rfl) ?_
  refine lv_imul hx hb dX4_at_29 ?_
  refine lv_iadd hx hb dX4_at_30 ?_
  refine lv_imul hx hb dX4_at_31 ?_
  refine lv_iadd hx hb dX4_at_32 ?_
  refine lv_aload_n hx hb dX4_at_33 rfl (lv_at hl 0 rfl) ?_
  refine lv_iconst (v := 2) hx hb dX4_at_34 (by decide) ?_
  refine kc_iald (j := 2) hx hb hK hP 0 0 rfl rfl (by decide) (by decide) dX4_at_35 ?_
  refine lv_iload_n hx hb dX4_at_36 rfl (lv_at hl 3 rfl) ?_
  refine lv_imul hx hb dX4_at_37 ?_
  refine lv_iload_n hx hb dX4_at_38 rfl (lv_at hl 3 rfl) ?_
  refine lv_imul hx hb dX4_at_39 ?_
  refine lv_iadd hx hb dX4_at_40 ?_
  refine lv_topi (fun v_1 e_v_1 => ?_)
  have hF := nm_at hF e_v_1
  have q0 := sm1 hF
  refine W_Qe hQ ?_
  exact W.iret hx hb hr (fun t ht hW => ⟨_, rfl, q0, ht⟩) (fun _ h9 => by cases h9) dX4_at_41
def fX4_atRow (n2 : Nat) (six : Nat → Int32) (rows : Nat → Int32) (p2 : Int32) : Option (Int32) :=
  if okI p2 n2 then nm (p2 + (1 : Int32)) (fun (v_1 : Int32) => if okI v_1 n2 then nm (p2 + (2 : Int32)) (fun (v_2 : Int32) => if okI v_2 n2 then bd1 (fX4_at six (rows p2.toNatClampNeg) (rows v_1.toNatClampNeg) (rows v_2.toNatClampNeg)) (fun (r_3 : Int32) => some r_3) else none) else none) else none
def lkX4_atRow : List Cond := []
def vX4_atRow : List Cond := .code yX4_atRow cX4_atRow 3 (some .int) :: (lkX4_atRow ++ (va_wsS RX4 19 yX4_at vX4_at ++ ([])))
theorem q_X4_atRow : ∀ w ∈ vX4_atRow, goodWord w = true := gd_cons rfl (gd_app (by decide +kernel) (gd_app (gd_S q_X4_at) gd_nil))
theorem g_X4_atRow_X4_at : GoodIn vX4_atRow (va_wsS RX4 19 yX4_at vX4_at) := gi_of (fun w h => List.mem_cons_of_mem _ (List.mem_append_right _ (List.mem_append_left _ h))) (gd_S q_X4_at)
abbrev rmX4_atRow : Room := { frames := 1, cells := 0, slots := 0, locals := 23 }
set_option maxHeartbeats 4000000 in
set_option maxRecDepth 100000 in
theorem c_X4_atRow (l : Launch) (dC : Nat → ClassId) (dI : Nat → Nat → Nat) (cI : ClassId) (b : Nat) (b2 : Nat) (n2 : Nat) (six : Nat → Int32) (rows : Nat → Int32) (p2 : Int32) (ro : Int32) (hF : fX4_atRow n2 six rows p2 = some ro) : Met l yX4_atRow vX4_atRow rmX4_atRow (va_Pc [.ref b, .ref b2, .int p2] (rPk (dC, dI) vwCl (sW2 cI b b2 n2 six rows) [(cI, .int)])) (vp_Si (fun x => x = ro)) 0 0 (fun _ => False) := by
  refine Met.ofW (cc := cX4_atRow) (maxL := 3) (ret := (some .int)) (by decide) rfl ?_
  intro p e s m args below meth c s₁ B hml hv
  obtain ⟨rfl, hP, hK, hN⟩ := hv
  have hx := B.exec
  have hb := B.bytes
  have hr := B.returns
  have hts := atoms_spec (ws := vX4_atRow) B.pre
  have hlk : ∀ w ∈ lkX4_atRow, w.before _ s = true := fun w h => hts w (List.mem_cons_of_mem _ (List.mem_append_left _ h))
  have hown : s.vm.findClass RX4 = some m.cls := findClass_of_methodNamed B.named
  have hlocks := B.notSynchronized
  have hl := lv_entry ([.ref b, .ref b2, .int p2] : List Value) (n := 3) (Nat.le_of_ble_eq_true rfl)
  rw [lg_entry_eq]
  generalize (lg_sl ([.ref b, .ref b2, .int p2] : List Value) ++ List.replicate (3 - (lg_sl ([.ref b, .ref b2, .int p2] : List Value)).length) Slot.unset).toArray = ls at hl ⊢
  have hl : lv_has ls 3 [(0, .ref b), (1, .ref b2), (2, .int p2)] := hl
  unfold fX4_atRow at hF
  refine W_Q (fun Q hQ => ?_)
  refine lv_aload_n hx hb dX4_atRow_0 rfl (lv_at hl 0 rfl) ?_
  refine lv_aload_n hx hb dX4_atRow_1 rfl (lv_at hl 1 rfl) ?_
  refine lv_iload_n hx hb dX4_atRow_2 rfl (lv_at hl 2 rfl) ?_
  obtain ⟨hi, hF⟩ := ck_of hF
  refine va_iald hx hb hK hP 1 0 rfl rfl hi dX4_atRow_3 ?_
  refine lv_aload_n hx hb dX4_atRow_4 rfl (lv_at hl 1 rfl) ?_
  refine lv_iload_n hx hb dX4_atRow_5 rfl (lv_at hl 2 rfl) ?_
  refine lv_iconst (v := 1) hx hb dX4_atRow_6 (by decide) ?_
  refine lv_iadd hx hb dX4_atRow_7 ?_
  refine lv_topi (fun v_1 e_v_1 => ?_)
  have hF := nm_at hF e_v_1
  obtain ⟨hi, hF⟩ := ck_of hF
  refine va_iald hx hb hK hP 1 0 rfl rfl hi dX4_atRow_8 ?_
  refine lv_aload_n hx hb dX4_atRow_9 rfl (lv_at hl 1 rfl) ?_
  refine lv_iload_n hx hb dX4_atRow_10 rfl (lv_at hl 2 rfl) ?_
  refine lv_iconst (v := 2) hx hb dX4_atRow_11 (by decide) ?_
  refine lv_iadd hx hb dX4_atRow_12 ?_
  refine lv_topi (fun v_2 e_v_2 => ?_)
  have hF := nm_at hF e_v_2
  obtain ⟨hi, hF⟩ := ck_of hF
  refine va_iald hx hb hK hP 1 0 rfl rfl hi dX4_atRow_13 ?_
  obtain ⟨r_3, hc, hF⟩ := bd1_of hF
  refine rc_i (va_runS (As := [.ref b, .int (rows p2.toNatClampNeg), .int (rows v_1.toNatClampNeg), .int (rows v_2.toNatClampNeg)]) (rest := []) ⟨hx, hb, hml, hown, hts⟩ (c_X4_at l dC dI cI b six (rows p2.toNatClampNeg) (rows v_1.toNatClampNeg) (rows v_2.toNatClampNeg) r_3 hc) (va_cwS 4 hts g_X4_atRow_X4_at rfl rfl rfl (by decide +kernel) ⟨Nat.le_of_ble_eq_true rfl, Nat.le_of_ble_eq_true rfl⟩) ⟨rPk_blind, rPk_at hK (hP.sub (ws' := (sW1 cI b six)) [0] rfl) hN⟩ rfl rfl hl.1 rfl (lv_room (Nat.le_of_ble_eq_true rfl)) dX4_atRow_14 ⟨Nat.zero_le _, Nat.zero_le _⟩) ?_
  have q0 := sm1 hF
  refine W_Qe hQ ?_
  exact W.iret hx hb hr (fun t ht hW => ⟨_, rfl, q0, ht⟩) (fun _ h9 => by cases h9) dX4_atRow_17
def fX4_touchUnit (n2 : Nat) (six : Nat → Int32) (rows : Nat → Int32) (p2 : Int32) (p3 : Int32) : Option (Int32) :=
  nm (p3 + (1 : Int32)) (fun (v_1 : Int32) => nm (v_1 - v_1 / (3 : Int32) * (3 : Int32)) (fun (x4_2 : Int32) => nm (p3 + (2 : Int32)) (fun (v_3 : Int32) => nm (v_3 - v_3 / (3 : Int32) * (3 : Int32)) (fun (x5_4 : Int32) => if okI p3 6 then nm (p2 + p3) (fun (v_5 : Int32) => if okI v_5 n2 then nm ((3 : Int32) + x5_4) (fun (v_6 : Int32) => if okI v_6 6 then nm (p2 + x4_2) (fun (v_7 : Int32) => if okI v_7 n2 then nm ((3 : Int32) + x4_2) (fun (v_8 : Int32) => if okI v_8 6 then nm (p2 + x5_4) (fun (v_9 : Int32) => if okI v_9 n2 then nm (((((2 : Int32) * (six p3.toNatClampNeg)) * (rows v_5.toNatClampNeg)) + ((six v_6.toNatClampNeg) * (rows v_7.toNatClampNeg))) + ((six v_8.toNatClampNeg) * (rows v_9.toNatClampNeg))) (fun (v_10 : Int32) => some v_10) else none) else none) else none) else none) else none) else none))))
def lkX4_touchUnit : List Cond := []
def vX4_touchUnit : List Cond := .code yX4_touchUnit cX4_touchUnit 6 (some .int) :: (lkX4_touchUnit ++ ([]))
theorem q_X4_touchUnit : ∀ w ∈ vX4_touchUnit, goodWord w = true := gd_cons rfl (gd_app (by decide +kernel) gd_nil)
abbrev rmX4_touchUnit : Room := { frames := 0, cells := 0, slots := 0, locals := 0 }
set_option maxHeartbeats 4000000 in
set_option maxRecDepth 100000 in
theorem c_X4_touchUnit (l : Launch) (dC : Nat → ClassId) (dI : Nat → Nat → Nat) (cI : ClassId) (b : Nat) (b2 : Nat) (n2 : Nat) (six : Nat → Int32) (rows : Nat → Int32) (p2 : Int32) (p3 : Int32) (ro : Int32) (hF : fX4_touchUnit n2 six rows p2 p3 = some ro) : Met l yX4_touchUnit vX4_touchUnit rmX4_touchUnit (va_Pc [.ref b, .ref b2, .int p2, .int p3] (rPk (dC, dI) vwCl (sW2 cI b b2 n2 six rows) [(cI, .int)])) (vp_Si (fun x => x = ro)) 0 0 (fun _ => False) := by
  refine Met.ofW (cc := cX4_touchUnit) (maxL := 6) (ret := (some .int)) (by decide) rfl ?_
  intro p e s m args below meth c s₁ B hml hv
  obtain ⟨rfl, hP, hK, hN⟩ := hv
  have hx := B.exec
  have hb := B.bytes
  have hr := B.returns
  have hts := atoms_spec (ws := vX4_touchUnit) B.pre
  have hlk : ∀ w ∈ lkX4_touchUnit, w.before _ s = true := fun w h => hts w (List.mem_cons_of_mem _ (List.mem_append_left _ h))
  have hown : s.vm.findClass RX4 = some m.cls := findClass_of_methodNamed B.named
  have hlocks := B.notSynchronized
  have hl := lv_entry ([.ref b, .ref b2, .int p2, .int p3] : List Value) (n := 6) (Nat.le_of_ble_eq_true rfl)
  rw [lg_entry_eq]
  generalize (lg_sl ([.ref b, .ref b2, .int p2, .int p3] : List Value) ++ List.replicate (6 - (lg_sl ([.ref b, .ref b2, .int p2, .int p3] : List Value)).length) Slot.unset).toArray = ls at hl ⊢
  have hl : lv_has ls 6 [(0, .ref b), (1, .ref b2), (2, .int p2), (3, .int p3)] := hl
  unfold fX4_touchUnit at hF
  refine W_Q (fun Q hQ => ?_)
  refine lv_iload_n hx hb dX4_touchUnit_0 rfl (lv_at hl 3 rfl) ?_
  refine lv_iconst (v := 1) hx hb dX4_touchUnit_1 (by decide) ?_
  refine lv_iadd hx hb dX4_touchUnit_2 ?_
  refine lv_iconst (v := 3) hx hb dX4_touchUnit_3 (by decide) ?_
  obtain ⟨v_1, e_v_1, hF⟩ := nm_ex hF
  rw [← e_v_1]
  refine lv_irem hx hb dX4_touchUnit_4 (by decide) ?_
  refine lv_topi (fun x4_2 e_x4_2 => ?_)
  have hF := nm_at hF e_x4_2
  refine lv_istore (lv' := [(4, .int x4_2), (0, .ref b), (1, .ref b2), (2, .int p2), (3, .int p3)]) hx hb dX4_touchUnit_5 hl (by decide) rfl (fun ls hl => ?_)
  refine lv_iload_n hx hb dX4_touchUnit_7 rfl (lv_at hl 4 rfl) ?_
  refine lv_iconst (v := 2) hx hb dX4_touchUnit_8 (by decide) ?_
  refine lv_iadd hx hb dX4_touchUnit_9 ?_
  refine lv_iconst (v := 3) hx hb dX4_touchUnit_10 (by decide) ?_
  obtain ⟨v_3, e_v_3, hF⟩ := nm_ex hF
  rw [← e_v_3]
  refine lv_irem hx hb dX4_touchUnit_11 (by decide) ?_
  refine lv_topi (fun x5_4 e_x5_4 => ?_)
  have hF := nm_at hF e_x5_4
  refine lv_istore (lv' := [(5, .int x5_4), (4, .int x4_2), (0, .ref b), (1, .ref b2), (2, .int p2), (3, .int p3)]) hx hb dX4_touchUnit_12 hl (by decide) rfl (fun ls hl => ?_)
  refine lv_iconst (v := 2) hx hb dX4_touchUnit_14 (by decide) ?_
  refine lv_aload_n hx hb dX4_touchUnit_15 rfl (lv_at hl 2 rfl) ?_
  refine lv_iload_n hx hb dX4_touchUnit_16 rfl (lv_at hl 5 rfl) ?_
  obtain ⟨hi, hF⟩ := ck_of hF
  refine va_iald hx hb hK hP 0 0 rfl rfl hi dX4_touchUnit_17 ?_
  refine lv_imul hx hb dX4_touchUnit_18 ?_
  refine lv_aload_n hx hb dX4_touchUnit_19 rfl (lv_at hl 3 rfl) ?_
  refine lv_iload_n hx hb dX4_touchUnit_20 rfl (lv_at hl 4 rfl) ?_
  refine lv_iload_n hx hb dX4_touchUnit_21 rfl (lv_at hl 5 rfl) ?_
  refine lv_iadd hx hb dX4_touchUnit_22 ?_
  refine lv_topi (fun v_5 e_v_5 => ?_)
  have hF := nm_at hF e_v_5
  obtain ⟨hi, hF⟩ := ck_of hF
  refine va_iald hx hb hK hP 1 0 rfl rfl hi dX4_touchUnit_23 ?_
  refine lv_imul hx hb dX4_touchUnit_24 ?_
  refine lv_aload_n hx hb dX4_touchUnit_25 rfl (lv_at hl 2 rfl) ?_
  refine lv_iconst (v := 3) hx hb dX4_touchUnit_26 (by decide) ?_
  refine lv_iload hx hb dX4_touchUnit_27 (lv_at hl 0 rfl) ?_
  refine lv_iadd hx hb dX4_touchUnit_29 ?_
  refine lv_topi (fun v_6 e_v_6 => ?_)
  have hF := nm_at hF e_v_6
  obtain ⟨hi, hF⟩ := ck_of hF
  refine va_iald hx hb hK hP 0 0 rfl rfl hi dX4_touchUnit_30 ?_
  refine lv_aload_n hx hb dX4_touchUnit_31 rfl (lv_at hl 3 rfl) ?_
  refine lv_iload_n hx hb dX4_touchUnit_32 rfl (lv_at hl 4 rfl) ?_
  refine lv_iload hx hb dX4_touchUnit_33 (lv_at hl 1 rfl) ?_
  refine lv_iadd hx hb dX4_touchUnit_35 ?_
  refine lv_topi (fun v_7 e_v_7 => ?_)
  have hF := nm_at hF e_v_7
  obtain ⟨hi, hF⟩ := ck_of hF
  refine va_iald hx hb hK hP 1 0 rfl rfl hi dX4_touchUnit_36 ?_
  refine lv_imul hx hb dX4_touchUnit_37 ?_
  refine lv_iadd hx hb dX4_touchUnit_38 ?_
  refine lv_aload_n hx hb dX4_touchUnit_39 rfl (lv_at hl 2 rfl) ?_
  refine lv_iconst (v := 3) hx hb dX4_touchUnit_40 (by decide) ?_
  refine lv_iload hx hb dX4_touchUnit_41 (lv_at hl 1 rfl) ?_
  refine lv_iadd hx hb dX4_touchUnit_43 ?_
  refine lv_topi (fun v_8 e_v_8 => ?_)
  have hF := nm_at hF e_v_8
  obtain ⟨hi, hF⟩ := ck_of hF
  refine va_iald hx hb hK hP 0 0 rfl rfl hi dX4_touchUnit_44 ?_
  refine lv_aload_n hx hb dX4_touchUnit_45 rfl (lv_at hl 3 rfl) ?_
  refine lv_iload_n hx hb dX4_touchUnit_46 rfl (lv_at hl 4 rfl) ?_
  refine lv_iload hx hb dX4_touchUnit_47 (lv_at hl 0 rfl) ?_
  refine lv_iadd hx hb dX4_touchUnit_49 ?_
  refine lv_topi (fun v_9 e_v_9 => ?_)
  have hF := nm_at hF e_v_9
  obtain ⟨hi, hF⟩ := ck_of hF
  refine va_iald hx hb hK hP 1 0 rfl rfl hi dX4_touchUnit_50 ?_
  refine lv_imul hx hb dX4_touchUnit_51 ?_
  refine lv_iadd hx hb dX4_touchUnit_52 ?_
  refine lv_topi (fun v_10 e_v_10 => ?_)
  have hF := nm_at hF e_v_10
  have q0 := sm1 hF
  refine W_Qe hQ ?_
  exact W.iret hx hb hr (fun t ht hW => ⟨_, rfl, q0, ht⟩) (fun _ h9 => by cases h9) dX4_touchUnit_53
def fX4_touch (n2 : Nat) (six : Nat → Int32) (rows : Nat → Int32) (p2 : Int32) (p3 : Int32) : Option (Int32) :=
  if okI p2 n2 then nm (rows p2.toNatClampNeg) (fun (x4_1 : Int32) => nm (p2 + (1 : Int32)) (fun (v_2 : Int32) => if okI v_2 n2 then nm (rows v_2.toNatClampNeg) (fun (x5_3 : Int32) => nm (p2 + (2 : Int32)) (fun (v_4 : Int32) => if okI v_4 n2 then nm (rows v_4.toNatClampNeg) (fun (x6_5 : Int32) => if okI p3 n2 then nm (p3 + (1 : Int32)) (fun (v_6 : Int32) => if okI v_6 n2 then nm (p3 + (2 : Int32)) (fun (v_7 : Int32) => if okI v_7 n2 then nm ((((rows p3.toNatClampNeg) * (((((2 : Int32) * (six 0)) * x4_1) + ((six 5) * x5_3)) + ((six 4) * x6_5))) + ((rows v_6.toNatClampNeg) * (((((2 : Int32) * (six 1)) * x5_3) + ((six 3) * x6_5)) + ((six 5) * x4_1)))) + ((rows v_7.toNatClampNeg) * (((((2 : Int32) * (six 2)) * x6_5) + ((six 3) * x5_3)) + ((six 4) * x4_1)))) (fun (v_8 : Int32) => some v_8) else none) else none) else none) else none)) else none)) else none
def lkX4_touch : List Cond := []
def vX4_touch : List Cond := .code yX4_touch cX4_touch 7 (some .int) :: (lkX4_touch ++ ([]))
theorem q_X4_touch : ∀ w ∈ vX4_touch, goodWord w = true := gd_cons rfl (gd_app (by decide +kernel) gd_nil)
abbrev rmX4_touch : Room := { frames := 0, cells := 0, slots := 0, locals := 0 }
set_option maxHeartbeats 4000000 in
set_option maxRecDepth 100000 in
theorem c_X4_touch (l : Launch) (dC : Nat → ClassId) (dI : Nat → Nat → Nat) (cI : ClassId) (b : Nat) (b2 : Nat) (n2 : Nat) (six : Nat → Int32) (rows : Nat → Int32) (p2 : Int32) (p3 : Int32) (ro : Int32) (hF : fX4_touch n2 six rows p2 p3 = some ro) : Met l yX4_touch vX4_touch rmX4_touch (va_Pc [.ref b, .ref b2, .int p2, .int p3] (rPk (dC, dI) vwCl (sW2 cI b b2 n2 six rows) [(cI, .int)])) (vp_Si (fun x => x = ro)) 0 0 (fun _ => False) := by
  refine Met.ofW (cc := cX4_touch) (maxL := 7) (ret := (some .int)) (by decide) rfl ?_
  intro p e s m args below meth c s₁ B hml hv
  obtain ⟨rfl, hP, hK, hN⟩ := hv
  have hx := B.exec
  have hb := B.bytes
  have hr := B.returns
  have hts := atoms_spec (ws := vX4_touch) B.pre
  have hlk : ∀ w ∈ lkX4_touch, w.before _ s = true := fun w h => hts w (List.mem_cons_of_mem _ (List.mem_append_left _ h))
  have hown : s.vm.findClass RX4 = some m.cls := findClass_of_methodNamed B.named
  have hlocks := B.notSynchronized
  have hl := lv_entry ([.ref b, .ref b2, .int p2, .int p3] : List Value) (n := 7) (Nat.le_of_ble_eq_true rfl)
  rw [lg_entry_eq]
  generalize (lg_sl ([.ref b, .ref b2, .int p2, .int p3] : List Value) ++ List.replicate (7 - (lg_sl ([.ref b, .ref b2, .int p2, .int p3] : List Value)).length) Slot.unset).toArray = ls at hl ⊢
  have hl : lv_has ls 7 [(0, .ref b), (1, .ref b2), (2, .int p2), (3, .int p3)] := hl
  unfold fX4_touch at hF
  refine W_Q (fun Q hQ => ?_)
  refine lv_aload_n hx hb dX4_touch_0 rfl (lv_at hl 1 rfl) ?_
  refine lv_iload_n hx hb dX4_touch_1 rfl (lv_at hl 2 rfl) ?_
  obtain ⟨hi, hF⟩ := ck_of hF
  refine va_iald hx hb hK hP 1 0 rfl rfl hi dX4_touch_2 ?_
  refine lv_topi (fun x4_1 e_x4_1 => ?_)
  have hF := nm_at hF e_x4_1
  refine lv_istore (lv' := [(4, .int x4_1), (0, .ref b), (1, .ref b2), (2, .int p2), (3, .int p3)]) hx hb dX4_touch_3 hl (by decide) rfl (fun ls hl => ?_)
  refine lv_aload_n hx hb dX4_touch_5 rfl (lv_at hl 2 rfl) ?_
  refine lv_iload_n hx hb dX4_touch_6 rfl (lv_at hl 3 rfl) ?_
  refine lv_iconst (v := 1) hx hb dX4_touch_7 (by decide) ?_
  refine lv_iadd hx hb dX4_touch_8 ?_
  refine lv_topi (fun v_2 e_v_2 => ?_)
  have hF := nm_at hF e_v_2
  obtain ⟨hi, hF⟩ := ck_of hF
  refine va_iald hx hb hK hP 1 0 rfl rfl hi dX4_touch_9 ?_
  refine lv_topi (fun x5_3 e_x5_3 => ?_)
  have hF := nm_at hF e_x5_3
  refine lv_istore (lv' := [(5, .int x5_3), (4, .int x4_1), (0, .ref b), (1, .ref b2), (2, .int p2), (3, .int p3)]) hx hb dX4_touch_10 hl (by decide) rfl (fun ls hl => ?_)
  refine lv_aload_n hx hb dX4_touch_12 rfl (lv_at hl 3 rfl) ?_
  refine lv_iload_n hx hb dX4_touch_13 rfl (lv_at hl 4 rfl) ?_
  refine lv_iconst (v := 2) hx hb dX4_touch_14 (by decide) ?_
  refine lv_iadd hx hb dX4_touch_15 ?_
  refine lv_topi (fun v_4 e_v_4 => ?_)
  have hF := nm_at hF e_v_4
  obtain ⟨hi, hF⟩ := ck_of hF
  refine va_iald hx hb hK hP 1 0 rfl rfl hi dX4_touch_16 ?_
  refine lv_topi (fun x6_5 e_x6_5 => ?_)
  have hF := nm_at hF e_x6_5
  refine lv_istore (lv' := [(6, .int x6_5), (5, .int x5_3), (4, .int x4_1), (0, .ref b), (1, .ref b2), (2, .int p2), (3, .int p3)]) hx hb dX4_touch_17 hl (by decide) rfl (fun ls hl => ?_)
  refine lv_aload_n hx hb dX4_touch_19 rfl (lv_at hl 4 rfl) ?_
  refine lv_iload_n hx hb dX4_touch_20 rfl (lv_at hl 6 rfl) ?_
  obtain ⟨hi, hF⟩ := ck_of hF
  refine va_iald hx hb hK hP 1 0 rfl rfl hi dX4_touch_21 ?_
  refine lv_iconst (v := 2) hx hb dX4_touch_22 (by decide) ?_
  refine lv_aload_n hx hb dX4_touch_23 rfl (lv_at hl 3 rfl) ?_
  refine lv_iconst (v := 0) hx hb dX4_touch_24 (by decide) ?_
  refine kc_iald (j := 0) hx hb hK hP 0 0 rfl rfl (by decide) (by decide) dX4_touch_25 ?_
  refine lv_imul hx hb dX4_touch_26 ?_
  refine lv_iload hx hb dX4_touch_27 (lv_at hl 2 rfl) ?_
  refine lv_imul hx hb dX4_touch_29 ?_
  refine lv_aload_n hx hb dX4_touch_30 rfl (lv_at hl 3 rfl) ?_
  refine lv_iconst (v := 5) hx hb dX4_touch_31 (by decide) ?_
  refine kc_iald (j := 5) hx hb hK hP 0 0 rfl rfl (by decide) (by decide) dX4_touch_32 ?_
  refine lv_iload hx hb dX4_touch_33 (lv_at hl 1 rfl) ?_
  refine lv_imul hx hb dX4_touch_35 ?_
  refine lv_iadd hx hb dX4_touch_36 ?_
  refine lv_aload_n hx hb dX4_touch_37 rfl (lv_at hl 3 rfl) ?_
  refine lv_iconst (v := 4) hx hb dX4_touch_38 (by decide) ?_
  refine kc_iald (j := 4) hx hb hK hP 0 0 rfl rfl (by decide) (by decide) dX4_touch_39 ?_
  refine lv_iload hx hb dX4_touch_40 (lv_at hl 0 rfl) ?_
  refine lv_imul hx hb dX4_touch_42 ?_
  refine lv_iadd hx hb dX4_touch_43 ?_
  refine lv_imul hx hb dX4_touch_44 ?_
  refine lv_aload_n hx hb dX4_touch_45 rfl (lv_at hl 4 rfl) ?_
  refine lv_iload_n hx hb dX4_touch_46 rfl (lv_at hl 6 rfl) ?_
  refine lv_iconst (v := 1) hx hb dX4_touch_47 (by decide) ?_
  refine lv_iadd hx hb dX4_touch_48 ?_
  refine lv_topi (fun v_6 e_v_6 => ?_)
  have hF := nm_at hF e_v_6
  obtain ⟨hi, hF⟩ := ck_of hF
  refine va_iald hx hb hK hP 1 0 rfl rfl hi dX4_touch_49 ?_
  refine lv_iconst (v := 2) hx hb dX4_touch_50 (by decide) ?_
  refine lv_aload_n hx hb dX4_touch_51 rfl (lv_at hl 3 rfl) ?_
  refine lv_iconst (v := 1) hx hb dX4_touch_52 (by decide) ?_
  refine kc_iald (j := 1) hx hb hK hP 0 0 rfl rfl (by decide) (by decide) dX4_touch_53 ?_
  refine lv_imul hx hb dX4_touch_54 ?_
  refine lv_iload hx hb dX4_touch_55 (lv_at hl 1 rfl) ?_
  refine lv_imul hx hb dX4_touch_57 ?_
  refine lv_aload_n hx hb dX4_touch_58 rfl (lv_at hl 3 rfl) ?_
  refine lv_iconst (v := 3) hx hb dX4_touch_59 (by decide) ?_
  refine kc_iald (j := 3) hx hb hK hP 0 0 rfl rfl (by decide) (by decide) dX4_touch_60 ?_
  refine lv_iload hx hb dX4_touch_61 (lv_at hl 0 rfl) ?_
  refine lv_imul hx hb dX4_touch_63 ?_
  refine lv_iadd hx hb dX4_touch_64 ?_
  refine lv_aload_n hx hb dX4_touch_65 rfl (lv_at hl 3 rfl) ?_
  refine lv_iconst (v := 5) hx hb dX4_touch_66 (by decide) ?_
  refine kc_iald (j := 5) hx hb hK hP 0 0 rfl rfl (by decide) (by decide) dX4_touch_67 ?_
  refine lv_iload hx hb dX4_touch_68 (lv_at hl 2 rfl) ?_
  refine lv_imul hx hb dX4_touch_70 ?_
  refine lv_iadd hx hb dX4_touch_71 ?_
  refine lv_imul hx hb dX4_touch_72 ?_
  refine lv_iadd hx hb dX4_touch_73 ?_
  refine lv_aload_n hx hb dX4_touch_74 rfl (lv_at hl 4 rfl) ?_
  refine lv_iload_n hx hb dX4_touch_75 rfl (lv_at hl 6 rfl) ?_
  refine lv_iconst (v := 2) hx hb dX4_touch_76 (by decide) ?_
  refine lv_iadd hx hb dX4_touch_77 ?_
  refine lv_topi (fun v_7 e_v_7 => ?_)
  have hF := nm_at hF e_v_7
  obtain ⟨hi, hF⟩ := ck_of hF
  refine va_iald hx hb hK hP 1 0 rfl rfl hi dX4_touch_78 ?_
  refine lv_iconst (v := 2) hx hb dX4_touch_79 (by decide) ?_
  refine lv_aload_n hx hb dX4_touch_80 rfl (lv_at hl 3 rfl) ?_
  refine lv_iconst (v := 2) hx hb dX4_touch_81 (by decide) ?_
  refine kc_iald (j := 2) hx hb hK hP 0 0 rfl rfl (by decide) (by decide) dX4_touch_82 ?_
  refine lv_imul hx hb dX4_touch_83 ?_
  refine lv_iload hx hb dX4_touch_84 (lv_at hl 0 rfl) ?_
  refine lv_imul hx hb dX4_touch_86 ?_
  refine lv_aload_n hx hb dX4_touch_87 rfl (lv_at hl 3 rfl) ?_
  refine lv_iconst (v := 3) hx hb dX4_touch_88 (by decide) ?_
  refine kc_iald (j := 3) hx hb hK hP 0 0 rfl rfl (by decide) (by decide) dX4_touch_89 ?_
  refine lv_iload hx hb dX4_touch_90 (lv_at hl 1 rfl) ?_
  refine lv_imul hx hb dX4_touch_92 ?_
  refine lv_iadd hx hb dX4_touch_93 ?_
  refine lv_aload_n hx hb dX4_touch_94 rfl (lv_at hl 3 rfl) ?_
  refine lv_iconst (v := 4) hx hb dX4_touch_95 (by decide) ?_
  refine kc_iald (j := 4) hx hb hK hP 0 0 rfl rfl (by decide) (by decide) dX4_touch_96 ?_
  refine lv_iload hx hb dX4_touch_97 (lv_at hl 2 rfl) ?_
  refine lv_imul hx hb dX4_touch_99 ?_
  refine lv_iadd hx hb dX4_touch_100 ?_
  refine lv_imul hx hb dX4_touch_101 ?_
  refine lv_iadd hx hb dX4_touch_102 ?_
  refine lv_topi (fun v_8 e_v_8 => ?_)
  have hF := nm_at hF e_v_8
  have q0 := sm1 hF
  refine W_Qe hQ ?_
  exact W.iret hx hb hr (fun t ht hW => ⟨_, rfl, q0, ht⟩) (fun _ h9 => by cases h9) dX4_touch_103
def fX4_turn_L2 (k24 : (Nat → Int32) → Option ((Nat → Int32))) (n2 : Nat) (six : Nat → Int32) (rows : Nat → Int32) : Nat → (Int32) → (Nat → Int32) → Option ((Nat → Int32))
  | 0, _, _ => none
  | n + 1, x3_1, into_2 => if (3 : Int32) ≤ x3_1 then ((k24 into_2)) else (bd1 (fX4_atRow n2 six rows ((3 : Int32) * x3_1)) (fun (r_3 : Int32) => if okI x3_1 6 then nm (upd into_2 x3_1.toNatClampNeg r_3) (fun (into_4 : Nat → Int32) => nm (x3_1 + (1 : Int32)) (fun (x3_5 : Int32) => (fX4_turn_L2 k24 n2 six rows n x3_5 into_4))) else none))
def fX4_turn (fu : Nat) (n2 : Nat) (six : Nat → Int32) (rows : Nat → Int32) (into : Nat → Int32)  : Option ((Nat → Int32)) :=
  nm (fun (into_6 : Nat → Int32) => bd1 (fX4_touch n2 six rows (3 : Int32) (6 : Int32)) (fun (r_7 : Int32) => nm (upd into_6 3 r_7) (fun (into_8 : Nat → Int32) => bd1 (fX4_touch n2 six rows (0 : Int32) (6 : Int32)) (fun (r_9 : Int32) => nm (upd into_8 4 r_9) (fun (into_10 : Nat → Int32) => bd1 (fX4_touch n2 six rows (0 : Int32) (3 : Int32)) (fun (r_11 : Int32) => nm (upd into_10 5 r_11) (fun (into_12 : Nat → Int32) => some into_12))))))) (fun (k24 : (Nat → Int32) → Option ((Nat → Int32))) => (fX4_turn_L2 k24 n2 six rows fu (0 : Int32) into))
def lkX4_turn : List Cond := []
def vX4_turn : List Cond := .code yX4_turn cX4_turn 4 none :: (lkX4_turn ++ (va_wsS RX4 23 yX4_atRow vX4_atRow ++ (va_wsS RX4 27 yX4_touch vX4_touch ++ ([]))))
theorem q_X4_turn : ∀ w ∈ vX4_turn, goodWord w = true := gd_cons rfl (gd_app (by decide +kernel) (gd_app (gd_S q_X4_atRow) (gd_app (gd_S q_X4_touch) gd_nil)))
theorem g_X4_turn_X4_atRow : GoodIn vX4_turn (va_wsS RX4 23 yX4_atRow vX4_atRow) := gi_of (fun w h => List.mem_cons_of_mem _ (List.mem_append_right _ (List.mem_append_left _ h))) (gd_S q_X4_atRow)
theorem g_X4_turn_X4_touch : GoodIn vX4_turn (va_wsS RX4 27 yX4_touch vX4_touch) := gi_of (fun w h => List.mem_cons_of_mem _ (List.mem_append_right _ (List.mem_append_right _ (List.mem_append_left _ h)))) (gd_S q_X4_touch)
abbrev rmX4_turn : Room := { frames := 2, cells := 0, slots := 0, locals := 45 }
set_option maxHeartbeats 4000000 in
set_option maxRecDepth 100000 in
theorem c_X4_turn (l : Launch) (dC : Nat → ClassId) (dI : Nat → Nat → Nat) (cI : ClassId) (b : Nat) (b2 : Nat) (n2 : Nat) (b3 : Nat) (fu : Nat) (sz : Nat) (six : Nat → Int32) (rows : Nat → Int32) (into : Nat → Int32)  (o_into : Nat → Int32) (hF : fX4_turn fu n2 six rows into = some o_into) : Met l yX4_turn vX4_turn rmX4_turn (va_Pc [.ref b, .ref b2, .ref b3] (mPk (dC, dI) vwCl (sW3 cI b b2 n2 b3 six rows into) [(cI, .int)] sz)) (va_Qv (fun (_ : Unit) => True) (mPo (dC, dI) vwCl (sW3 cI b b2 n2 b3 six rows o_into) [(cI, .int)] (va_A (sW3 cI b b2 n2 b3 six rows into) sz)) (va_A (sW3 cI b b2 n2 b3 six rows into) sz)) 0 0 (va_A (sW3 cI b b2 n2 b3 six rows into) sz) := by
  refine Met.ofW (cc := cX4_turn) (maxL := 4) (ret := none) (by decide) rfl ?_
  intro p e s m args below meth c s₁ B hml hv
  obtain ⟨rfl, hsz, hP, hK, hD0, hN⟩ := hv
  have hx := B.exec
  have hb := B.bytes
  have hr := B.returns
  have hts := atoms_spec (ws := vX4_turn) B.pre
  have hlk : ∀ w ∈ lkX4_turn, w.before _ s = true := fun w h => hts w (List.mem_cons_of_mem _ (List.mem_append_left _ h))
  have hown : s.vm.findClass RX4 = some m.cls := findClass_of_methodNamed B.named
  have hlocks := B.notSynchronized
  subst hsz
  have hD := hD0.self (sz := s.heap.size)
  generalize hAe : va_A (sW3 cI b b2 n2 b3 six rows into) s.heap.size = A at hD ⊢
  have hA : ∀ q : Nat, s.heap.size ≤ q → A q := fun q h => by rw [← hAe]; exact Or.inr h
  have hS : va_S A s.heap s.heap [] := va_S.rf
  have hl := lv_entry ([.ref b, .ref b2, .ref b3] : List Value) (n := 4) (Nat.le_of_ble_eq_true rfl)
  rw [lg_entry_eq]
  generalize (lg_sl ([.ref b, .ref b2, .ref b3] : List Value) ++ List.replicate (4 - (lg_sl ([.ref b, .ref b2, .ref b3] : List Value)).length) Slot.unset).toArray = ls at hl ⊢
  have hl : lv_has ls 4 [(0, .ref b), (1, .ref b2), (2, .ref b3)] := hl
  unfold fX4_turn at hF
  refine W_Q (fun Q hQ => ?_)
  have hP : va_P (dC, dI) vwCl (sW3 cI b b2 n2 b3 six rows into) s.heap := hP
  refine W_HL (fun H locs eH eL => ?_)
  rw [← eH] at hP
  have hS : va_S A s.heap H locs := by rw [eH, eL]; exact hS
  refine lv_iconst (v := 0) hx hb dX4_turn_0 (by decide) ?_
  refine lv_istore_n (lv' := [(3, .int (0 : Int32)), (0, .ref b), (1, .ref b2), (2, .ref b3)]) hx hb dX4_turn_1 rfl hl (by decide) rfl (fun ls hl => ?_)
  obtain ⟨k24, e_k24, hF⟩ := nm_ex hF
  have hk24 : ∀ (into_6 : Nat → Int32) (H : Heap) (locs : List Loc) (ls : Array Slot), va_P (dC, dI) vwCl (sW3 cI b b2 n2 b3 six rows into_6) H → va_D A (sW3 cI b b2 n2 b3 six rows into_6) → va_S A s.heap H locs → lv_has ls 4 [(0, .ref b), (1, .ref b2), (2, .ref b3)] → k24 into_6 = some o_into → W p l e rmX4_turn s m ([.ref b, .ref b2, .ref b3] : List Value).toArray below meth c H locs 0 0 Q (F0 m 24 ls []) := by
    intro into_6 H locs ls hP hD hS hl hF
    have hF := ka1 e_k24 hF
    refine lv_aload_n hx hb dX4_turn_24 rfl (lv_at hl 2 rfl) ?_
    refine lv_iconst (v := 3) hx hb dX4_turn_25 (by decide) ?_
    refine lv_aload_n hx hb dX4_turn_26 rfl (lv_at hl 0 rfl) ?_
    refine lv_aload_n hx hb dX4_turn_27 rfl (lv_at hl 1 rfl) ?_
    refine lv_iconst (v := 3) hx hb dX4_turn_28 (by decide) ?_
    refine lv_bipush (v := (6)) hx hb dX4_turn_29 (by decide) ?_
    obtain ⟨r_7, hc, hF⟩ := bd1_of hF
    refine rc_i (va_runS (As := [.ref b, .ref b2, .int (3 : Int32), .int (6 : Int32)]) (rest := [.int (3 : Int32), .ref b3]) ⟨hx, hb, hml, hown, hts⟩ (c_X4_touch l dC dI cI b b2 n2 six rows (3 : Int32) (6 : Int32) r_7 hc) (va_cwS 4 hts g_X4_turn_X4_touch rfl rfl rfl (by decide +kernel) ⟨Nat.le_of_ble_eq_true rfl, Nat.le_of_ble_eq_true rfl⟩) ⟨rPk_blind, rPk_at hK (hP.sub (ws' := (sW2 cI b b2 n2 six rows)) [0, 1] rfl) hN⟩ rfl rfl hl.1 rfl (lv_room (Nat.le_of_ble_eq_true rfl)) dX4_turn_31 ⟨Nat.zero_le _, Nat.zero_le _⟩) ?_
    obtain ⟨into_8, e_into_8, hF⟩ := nm_ex hF
    refine kc_iast (j := 3) (g := into_8) hx hb hK hP hD hS 2 0 rfl rfl (by decide) (by decide) dX4_turn_34 e_into_8 (fun H locs hP hD hS => ?_)
    have hP : va_P (dC, dI) vwCl (sW3 cI b b2 n2 b3 six rows into_8) H := hP
    have hD : va_D A (sW3 cI b b2 n2 b3 six rows into_8) := hD
    refine lv_aload_n hx hb dX4_turn_35 rfl (lv_at hl 2 rfl) ?_
    refine lv_iconst (v := 4) hx hb dX4_turn_36 (by decide) ?_
    refine lv_aload_n hx hb dX4_turn_37 rfl (lv_at hl 0 rfl) ?_
    refine lv_aload_n hx hb dX4_turn_38 rfl (lv_at hl 1 rfl) ?_
    refine lv_iconst (v := 0) hx hb dX4_turn_39 (by decide) ?_
    refine lv_bipush (v := (6)) hx hb dX4_turn_40 (by decide) ?_
    obtain ⟨r_9, hc, hF⟩ := bd1_of hF
    refine rc_i (va_runS (As := [.ref b, .ref b2, .int (0 : Int32), .int (6 : Int32)]) (rest := [.int (4 : Int32), .ref b3]) ⟨hx, hb, hml, hown, hts⟩ (c_X4_touch l dC dI cI b b2 n2 six rows (0 : Int32) (6 : Int32) r_9 hc) (va_cwS 4 hts g_X4_turn_X4_touch rfl rfl rfl (by decide +kernel) ⟨Nat.le_of_ble_eq_true rfl, Nat.le_of_ble_eq_true rfl⟩) ⟨rPk_blind, rPk_at hK (hP.sub (ws' := (sW2 cI b b2 n2 six rows)) [0, 1] rfl) hN⟩ rfl rfl hl.1 rfl (lv_room (Nat.le_of_ble_eq_true rfl)) dX4_turn_42 ⟨Nat.zero_le _, Nat.zero_le _⟩) ?_
    obtain ⟨into_10, e_into_10, hF⟩ := nm_ex hF
    refine kc_iast (j := 4) (g := into_10) hx hb hK hP hD hS 2 0 rfl rfl (by decide) (by decide) dX4_turn_45 e_into_10 (fun H locs hP hD hS => ?_)
    have hP : va_P (dC, dI) vwCl (sW3 cI b b2 n2 b3 six rows into_10) H := hP
    have hD : va_D A (sW3 cI b b2 n2 b3 six rows into_10) := hD
    refine lv_aload_n hx hb dX4_turn_46 rfl (lv_at hl 2 rfl) ?_
    refine lv_iconst (v := 5) hx hb dX4_turn_47 (by decide) ?_
    refine lv_aload_n hx hb dX4_turn_48 rfl (lv_at hl 0 rfl) ?_
    refine lv_aload_n hx hb dX4_turn_49 rfl (lv_at hl 1 rfl) ?_
    refine lv_iconst (v := 0) hx hb dX4_turn_50 (by decide) ?_
    refine lv_iconst (v := 3) hx hb dX4_turn_51 (by decide) ?_
    obtain ⟨r_11, hc, hF⟩ := bd1_of hF
    refine rc_i (va_runS (As := [.ref b, .ref b2, .int (0 : Int32), .int (3 : Int32)]) (rest := [.int (5 : Int32), .ref b3]) ⟨hx, hb, hml, hown, hts⟩ (c_X4_touch l dC dI cI b b2 n2 six rows (0 : Int32) (3 : Int32) r_11 hc) (va_cwS 4 hts g_X4_turn_X4_touch rfl rfl rfl (by decide +kernel) ⟨Nat.le_of_ble_eq_true rfl, Nat.le_of_ble_eq_true rfl⟩) ⟨rPk_blind, rPk_at hK (hP.sub (ws' := (sW2 cI b b2 n2 six rows)) [0, 1] rfl) hN⟩ rfl rfl hl.1 rfl (lv_room (Nat.le_of_ble_eq_true rfl)) dX4_turn_52 ⟨Nat.zero_le _, Nat.zero_le _⟩) ?_
    obtain ⟨into_12, e_into_12, hF⟩ := nm_ex hF
    refine kc_iast (j := 5) (g := into_12) hx hb hK hP hD hS 2 0 rfl rfl (by decide) (by decide) dX4_turn_55 e_into_12 (fun H locs hP hD hS => ?_)
    have hP : va_P (dC, dI) vwCl (sW3 cI b b2 n2 b3 six rows into_12) H := hP
    have hD : va_D A (sW3 cI b b2 n2 b3 six rows into_12) := hD
    have q0 := sm1 hF
    have hP : va_P (dC, dI) vwCl (sW3 cI b b2 n2 b3 six rows o_into) H := by rw [← q0]; exact hP
    have hD : va_D A (sW3 cI b b2 n2 b3 six rows o_into) := by rw [← q0]; exact hD
    refine W_Qe hQ ?_
    exact W.vret hx hb hr (fun t ht hW => ⟨⟨(), rfl, trivial, by rw [ht]; exact hP, va_K.moved hW.alike hK, hD⟩, hS.F ht⟩) hS.2.2 dX4_turn_56
  clear e_k24
  have hL2 : ∀ n : Nat, ∀ (x3_1 : Int32) (into_2 : Nat → Int32) (H : Heap) (locs : List Loc) (ls : Array Slot), va_P (dC, dI) vwCl (sW3 cI b b2 n2 b3 six rows into_2) H → va_D A (sW3 cI b b2 n2 b3 six rows into_2) → va_S A s.heap H locs → lv_has ls 4 [(0, .ref b), (1, .ref b2), (2, .ref b3), (3, .int x3_1)] → fX4_turn_L2 k24 n2 six rows n x3_1 into_2 = some o_into → W p l e rmX4_turn s m ([.ref b, .ref b2, .ref b3] : List Value).toArray below meth c H locs 0 0 Q (F0 m 2 ls []) := by
    intro n
    induction n with
    | zero => intro x3_1 into_2 H locs ls hP hD hS hl hF; rw [fX4_turn_L2] at hF; cases hF
    | succ n ih2 =>
      intro x3_1 into_2 H locs ls hP hD hS hl hF
      rw [fX4_turn_L2] at hF
      refine lv_iload_n hx hb dX4_turn_2 rfl (lv_at hl 3 rfl) ?_
      refine lv_iconst (v := 3) hx hb dX4_turn_3 (by decide) ?_
      refine lv_icmp_ge (tgt := 24) hx hb dX4_turn_4 (by decide) (fun c0 => ?_) (fun c0 => ?_)
      · have hF := if_t hF c0
        exact hk24 into_2 H locs ls hP hD hS (lv_sub hl [0, 1, 2] rfl) hF
      · have hF := if_f hF c0
        refine lv_aload_n hx hb dX4_turn_7 rfl (lv_at hl 2 rfl) ?_
        refine lv_iload_n hx hb dX4_turn_8 rfl (lv_at hl 3 rfl) ?_
        refine lv_aload_n hx hb dX4_turn_9 rfl (lv_at hl 0 rfl) ?_
        refine lv_aload_n hx hb dX4_turn_10 rfl (lv_at hl 1 rfl) ?_
        refine lv_iconst (v := 3) hx hb dX4_turn_11 (by decide) ?_
        refine lv_iload_n hx hb dX4_turn_12 rfl (lv_at hl 3 rfl) ?_
        refine lv_imul hx hb dX4_turn_13 ?_
        obtain ⟨r_3, hc, hF⟩ := bd1_of hF
        refine rc_i (va_runS (As := [.ref b, .ref b2, .int ((3 : Int32) * x3_1)]) (rest := [.int x3_1, .ref b3]) ⟨hx, hb, hml, hown, hts⟩ (c_X4_atRow l dC dI cI b b2 n2 six rows ((3 : Int32) * x3_1) r_3 hc) (va_cwS 3 hts g_X4_turn_X4_atRow rfl rfl rfl (by decide +kernel) ⟨Nat.le_of_ble_eq_true rfl, Nat.le_of_ble_eq_true rfl⟩) ⟨rPk_blind, rPk_at hK (hP.sub (ws' := (sW2 cI b b2 n2 six rows)) [0, 1] rfl) hN⟩ rfl rfl hl.1 rfl (lv_room (Nat.le_of_ble_eq_true rfl)) dX4_turn_14 ⟨Nat.zero_le _, Nat.zero_le _⟩) ?_
        obtain ⟨hi, hF⟩ := ck_of hF
        obtain ⟨into_4, e_into_4, hF⟩ := nm_ex hF
        refine kc_iast (j := x3_1.toNatClampNeg) (g := into_4) hx hb hK hP hD hS 2 0 rfl rfl rfl hi dX4_turn_17 e_into_4 (fun H locs hP hD hS => ?_)
        have hP : va_P (dC, dI) vwCl (sW3 cI b b2 n2 b3 six rows into_4) H := hP
        have hD : va_D A (sW3 cI b b2 n2 b3 six rows into_4) := hD
        obtain ⟨x3_5, e_x3_5, hF⟩ := nm_ex hF
        refine lv_iinc (v := x3_5) (lv' := [(3, .int x3_5), (0, .ref b), (1, .ref b2), (2, .ref b3)]) hx hb dX4_turn_18 hl (k := 3) rfl (by rw [e_x3_5]; rfl) (by decide) rfl (fun ls hl => ?_)
        refine lv_goto (tgt := 2) hx hb dX4_turn_21 (by decide) ?_
        exact ih2 x3_5 into_4 H locs ls hP hD hS (lv_sub hl [1, 2, 3, 0] rfl) hF
  exact hL2 fu (0 : Int32) into H locs ls hP hD hS (lv_sub hl [1, 2, 3, 0] rfl) hF
def fX4_areAlike_L2 (one : Nat → Int32) (other : Nat → Int32) : Nat → (Int32) → Option (Int32)
  | 0, _ => none
  | n + 1, x2_1 => if (6 : Int32) ≤ x2_1 then (some (1 : Int32)) else (if okI x2_1 6 then if okI x2_1 6 then if (one x2_1.toNatClampNeg) = (other x2_1.toNatClampNeg) then (nm (x2_1 + (1 : Int32)) (fun (x2_2 : Int32) => (fX4_areAlike_L2 one other n x2_2))) else (some (0 : Int32)) else none else none)
def fX4_areAlike (fu : Nat) (one : Nat → Int32) (other : Nat → Int32)  : Option (Int32) :=
  (fX4_areAlike_L2 one other fu (0 : Int32))
def lkX4_areAlike : List Cond := []
def vX4_areAlike : List Cond := .code yX4_areAlike cX4_areAlike 3 (some .boolean) :: (lkX4_areAlike ++ ([]))
theorem q_X4_areAlike : ∀ w ∈ vX4_areAlike, goodWord w = true := gd_cons rfl (gd_app (by decide +kernel) gd_nil)
abbrev rmX4_areAlike : Room := { frames := 0, cells := 0, slots := 0, locals := 0 }
set_option maxHeartbeats 4000000 in
set_option maxRecDepth 100000 in
theorem c_X4_areAlike (l : Launch) (dC : Nat → ClassId) (dI : Nat → Nat → Nat) (cI : ClassId) (b : Nat) (b2 : Nat) (fu : Nat) (one : Nat → Int32) (other : Nat → Int32)  (ro : Int32) (hF : fX4_areAlike fu one other = some ro) : Met l yX4_areAlike vX4_areAlike rmX4_areAlike (va_Pc [.ref b, .ref b2] (rPk (dC, dI) vwCl (aW2 cI b b2 one other) [(cI, .int)])) (vp_Si (fun x => x = ro)) 0 0 (fun _ => False) := by
  refine Met.ofW (cc := cX4_areAlike) (maxL := 3) (ret := (some .boolean)) (by decide) rfl ?_
  intro p e s m args below meth c s₁ B hml hv
  obtain ⟨rfl, hP, hK, hN⟩ := hv
  have hx := B.exec
  have hb := B.bytes
  have hr := B.returns
  have hts := atoms_spec (ws := vX4_areAlike) B.pre
  have hlk : ∀ w ∈ lkX4_areAlike, w.before _ s = true := fun w h => hts w (List.mem_cons_of_mem _ (List.mem_append_left _ h))
  have hown : s.vm.findClass RX4 = some m.cls := findClass_of_methodNamed B.named
  have hlocks := B.notSynchronized
  have hl := lv_entry ([.ref b, .ref b2] : List Value) (n := 3) (Nat.le_of_ble_eq_true rfl)
  rw [lg_entry_eq]
  generalize (lg_sl ([.ref b, .ref b2] : List Value) ++ List.replicate (3 - (lg_sl ([.ref b, .ref b2] : List Value)).length) Slot.unset).toArray = ls at hl ⊢
  have hl : lv_has ls 3 [(0, .ref b), (1, .ref b2)] := hl
  unfold fX4_areAlike at hF
  refine W_Q (fun Q hQ => ?_)
  refine lv_iconst (v := 0) hx hb dX4_areAlike_0 (by decide) ?_
  refine lv_istore_n (lv' := [(2, .int (0 : Int32)), (0, .ref b), (1, .ref b2)]) hx hb dX4_areAlike_1 rfl hl (by decide) rfl (fun ls hl => ?_)
  have hL2 : ∀ n : Nat, ∀ (x2_1 : Int32) (ls : Array Slot), lv_has ls 3 [(0, .ref b), (1, .ref b2), (2, .int x2_1)] → fX4_areAlike_L2 one other n x2_1 = some ro → W p l e rmX4_areAlike s m ([.ref b, .ref b2] : List Value).toArray below meth c s.heap [] 0 0 Q (F0 m 2 ls []) := by
    intro n
    induction n with
    | zero => intro x2_1 ls hl hF; rw [fX4_areAlike_L2] at hF; cases hF
    | succ n ih2 =>
      intro x2_1 ls hl hF
      rw [fX4_areAlike_L2] at hF
      refine lv_iload_n hx hb dX4_areAlike_2 rfl (lv_at hl 2 rfl) ?_
      refine lv_bipush (v := (6)) hx hb dX4_areAlike_3 (by decide) ?_
      refine lv_icmp_ge (tgt := 25) hx hb dX4_areAlike_5 (by decide) (fun c0 => ?_) (fun c0 => ?_)
      · have hF := if_t hF c0
        refine lv_iconst (v := 1) hx hb dX4_areAlike_25 (by decide) ?_
        have q0 := sm1 hF
        refine W_Qe hQ ?_
        exact W.zret (ty := .boolean) hx hb hr (nz_bool (by decide)) (fun t ht hW => ⟨_, rfl, q0, ht⟩) (fun _ h9 => by cases h9) dX4_areAlike_26
      · have hF := if_f hF c0
        refine lv_aload_n hx hb dX4_areAlike_8 rfl (lv_at hl 0 rfl) ?_
        refine lv_iload_n hx hb dX4_areAlike_9 rfl (lv_at hl 2 rfl) ?_
        obtain ⟨hi, hF⟩ := ck_of hF
        refine va_iald hx hb hK hP 0 0 rfl rfl hi dX4_areAlike_10 ?_
        refine lv_aload_n hx hb dX4_areAlike_11 rfl (lv_at hl 1 rfl) ?_
        refine lv_iload_n hx hb dX4_areAlike_12 rfl (lv_at hl 2 rfl) ?_
        obtain ⟨hi, hF⟩ := ck_of hF
        refine va_iald hx hb hK hP 1 0 rfl rfl hi dX4_areAlike_13 ?_
        refine lv_icmp_eq (tgt := 19) hx hb dX4_areAlike_14 (by decide) (fun c0 => ?_) (fun c0 => ?_)
        · have hF := if_t hF c0
          obtain ⟨x2_2, e_x2_2, hF⟩ := nm_ex hF
          refine lv_iinc (v := x2_2) (lv' := [(2, .int x2_2), (0, .ref b), (1, .ref b2)]) hx hb dX4_areAlike_19 hl (k := 2) rfl (by rw [e_x2_2]; rfl) (by decide) rfl (fun ls hl => ?_)
          refine lv_goto (tgt := 2) hx hb dX4_areAlike_22 (by decide) ?_
          exact ih2 x2_2 ls (lv_sub hl [1, 2, 0] rfl) hF
        · have hF := if_f hF c0
          refine lv_iconst (v := 0) hx hb dX4_areAlike_17 (by decide) ?_
          have q0 := sm1 hF
          refine W_Qe hQ ?_
          exact W.zret (ty := .boolean) hx hb hr (nz_bool (by decide)) (fun t ht hW => ⟨_, rfl, q0, ht⟩) (fun _ h9 => by cases h9) dX4_areAlike_18
  exact hL2 fu (0 : Int32) ls (lv_sub hl [1, 2, 0] rfl) hF
def fX5_timesAt (fu : Nat) (six : Nat → Int32) (p1 : Int32) (p2 : Int32) (p3 : Int32) : Option (Int32) :=
  nm ((2 : Int32) * (six 0)) (fun (x4_1 : Int32) => nm (((six 5) * p2) + ((six 4) * p3)) (fun (x5_2 : Int32) => bd1 (fX4_at six (0 : Int32) p2 p3) (fun (r_3 : Int32) => nm ((x5_2 * x5_2) - (((2 : Int32) * x4_1) * (r_3 - p1))) (fun (x6_4 : Int32) => nm (some (0 : Int32)) (fun (k52 : Option (Int32)) => if x4_1 ≤ 0 then ((k52)) else (if 0 ≤ x6_4 then (bd1 (fX5_rootOf fu x6_4) (fun (r_5 : Int32) => if (r_5 * r_5) = x6_4 then (nm (r_5 - x5_2) (fun (v_6 : Int32) => if ¬ x4_1 = 0 then nm (fun (s_7 : Int32) => nm (fun (x8_10 : Int32) => some x8_10) (fun (k110 : (Int32) → Option (Int32)) => if r_5 = 0 then ((k110 s_7)) else (nm (r_5 + x5_2) (fun (v_8 : Int32) => if ¬ x4_1 = 0 then if (v_8 - v_8 / x4_1 * x4_1) = 0 then (nm (s_7 + (1 : Int32)) (fun (x8_9 : Int32) => (k110 x8_9))) else ((k110 s_7)) else none)))) (fun (k89 : (Int32) → Option (Int32)) => if (v_6 - v_6 / x4_1 * x4_1) = 0 then ((k89 (1 : Int32))) else ((k89 (0 : Int32)))) else none)) else (some (0 : Int32)))) else ((k52))))))))
def lkX5_timesAt : List Cond := [.initialized RX4, .static yX4_at]
def vX5_timesAt : List Cond := .code yX5_timesAt cX5_timesAt 9 (some .int) :: (lkX5_timesAt ++ (vX4_at ++ (va_wsS RX5 13 yX5_rootOf vX5_rootOf ++ ([]))))
theorem q_X5_timesAt : ∀ w ∈ vX5_timesAt, goodWord w = true := gd_cons rfl (gd_app (by decide +kernel) (gd_app q_X4_at (gd_app (gd_S q_X5_rootOf) gd_nil)))
theorem g_X5_timesAt_X4_at : GoodIn vX5_timesAt (vX4_at) := gi_of (fun w h => List.mem_cons_of_mem _ (List.mem_append_right _ (List.mem_append_left _ h))) q_X4_at
theorem g_X5_timesAt_X5_rootOf : GoodIn vX5_timesAt (va_wsS RX5 13 yX5_rootOf vX5_rootOf) := gi_of (fun w h => List.mem_cons_of_mem _ (List.mem_append_right _ (List.mem_append_right _ (List.mem_append_left _ h)))) (gd_S q_X5_rootOf)
abbrev rmX5_timesAt : Room := { frames := 1, cells := 0, slots := 0, locals := 23 }
set_option maxHeartbeats 4000000 in
set_option maxRecDepth 100000 in
theorem c_X5_timesAt (l : Launch) (dC : Nat → ClassId) (dI : Nat → Nat → Nat) (cI : ClassId) (b : Nat) (fu : Nat) (six : Nat → Int32) (p1 : Int32) (p2 : Int32) (p3 : Int32) (ro : Int32) (hF : fX5_timesAt fu six p1 p2 p3 = some ro) : Met l yX5_timesAt vX5_timesAt rmX5_timesAt (va_Pc [.ref b, .int p1, .int p2, .int p3] (rPk (dC, dI) vwCl (sW1 cI b six) [(cI, .int)])) (vp_Si (fun x => x = ro)) 0 0 (fun _ => False) := by
  refine Met.ofW (cc := cX5_timesAt) (maxL := 9) (ret := (some .int)) (by decide) rfl ?_
  intro p e s m args below meth c s₁ B hml hv
  obtain ⟨rfl, hP, hK, hN⟩ := hv
  have hx := B.exec
  have hb := B.bytes
  have hr := B.returns
  have hts := atoms_spec (ws := vX5_timesAt) B.pre
  have hlk : ∀ w ∈ lkX5_timesAt, w.before _ s = true := fun w h => hts w (List.mem_cons_of_mem _ (List.mem_append_left _ h))
  have hown : s.vm.findClass RX5 = some m.cls := findClass_of_methodNamed B.named
  have hlocks := B.notSynchronized
  have hl := lv_entry ([.ref b, .int p1, .int p2, .int p3] : List Value) (n := 9) (Nat.le_of_ble_eq_true rfl)
  rw [lg_entry_eq]
  generalize (lg_sl ([.ref b, .int p1, .int p2, .int p3] : List Value) ++ List.replicate (9 - (lg_sl ([.ref b, .int p1, .int p2, .int p3] : List Value)).length) Slot.unset).toArray = ls at hl ⊢
  have hl : lv_has ls 9 [(0, .ref b), (1, .int p1), (2, .int p2), (3, .int p3)] := hl
  unfold fX5_timesAt at hF
  refine W_Q (fun Q hQ => ?_)
  refine lv_iconst (v := 2) hx hb dX5_timesAt_0 (by decide) ?_
  refine lv_aload_n hx hb dX5_timesAt_1 rfl (lv_at hl 0 rfl) ?_
  refine lv_iconst (v := 0) hx hb dX5_timesAt_2 (by decide) ?_
  refine kc_iald (j := 0) hx hb hK hP 0 0 rfl rfl (by decide) (by decide) dX5_timesAt_3 ?_
  refine lv_imul hx hb dX5_timesAt_4 ?_
  refine lv_topi (fun x4_1 e_x4_1 => ?_)
  have hF := nm_at hF e_x4_1
  refine lv_istore (lv' := [(4, .int x4_1), (0, .ref b), (1, .int p1), (2, .int p2), (3, .int p3)]) hx hb dX5_timesAt_5 hl (by decide) rfl (fun ls hl => ?_)
  refine lv_aload_n hx hb dX5_timesAt_7 rfl (lv_at hl 1 rfl) ?_
  refine lv_iconst (v := 5) hx hb dX5_timesAt_8 (by decide) ?_
  refine kc_iald (j := 5) hx hb hK hP 0 0 rfl rfl (by decide) (by decide) dX5_timesAt_9 ?_
  refine lv_iload_n hx hb dX5_timesAt_10 rfl (lv_at hl 3 rfl) ?_
  refine lv_imul hx hb dX5_timesAt_11 ?_
  refine lv_aload_n hx hb dX5_timesAt_12 rfl (lv_at hl 1 rfl) ?_
  refine lv_iconst (v := 4) hx hb dX5_timesAt_13 (by decide) ?_
  refine kc_iald (j := 4) hx hb hK hP 0 0 rfl rfl (by decide) (by decide) dX5_timesAt_14 ?_
  refine lv_iload_n hx hb dX5_timesAt_15 rfl (lv_at hl 4 rfl) ?_
  refine lv_imul hx hb dX5_timesAt_16 ?_
  refine lv_iadd hx hb dX5_timesAt_17 ?_
  refine lv_topi (fun x5_2 e_x5_2 => ?_)
  have hF := nm_at hF e_x5_2
  refine lv_istore (lv' := [(5, .int x5_2), (4, .int x4_1), (0, .ref b), (1, .int p1), (2, .int p2), (3, .int p3)]) hx hb dX5_timesAt_18 hl (by decide) rfl (fun ls hl => ?_)
  refine lv_iload hx hb dX5_timesAt_20 (lv_at hl 0 rfl) ?_
  refine lv_iload hx hb dX5_timesAt_22 (lv_at hl 0 rfl) ?_
  refine lv_imul hx hb dX5_timesAt_24 ?_
  refine lv_iconst (v := 2) hx hb dX5_timesAt_25 (by decide) ?_
  refine lv_iload hx hb dX5_timesAt_26 (lv_at hl 1 rfl) ?_
  refine lv_imul hx hb dX5_timesAt_28 ?_
  refine lv_aload_n hx hb dX5_timesAt_29 rfl (lv_at hl 2 rfl) ?_
  refine lv_iconst (v := 0) hx hb dX5_timesAt_30 (by decide) ?_
  refine lv_iload_n hx hb dX5_timesAt_31 rfl (lv_at hl 4 rfl) ?_
  refine lv_iload_n hx hb dX5_timesAt_32 rfl (lv_at hl 5 rfl) ?_
  obtain ⟨r_3, hc, hF⟩ := bd1_of hF
  refine rc_i (va_runSN (As := [.ref b, .int (0 : Int32), .int p2, .int p3]) (rest := [.int ((2 : Int32) * x4_1), .int (x5_2 * x5_2)]) ⟨hx, hb, hml, hown, hts⟩ (c_X4_at l dC dI cI b six (0 : Int32) p2 p3 r_3 hc) ⟨va_cnB 4 hts g_X5_timesAt_X4_at rfl rfl rfl (hN.2 (RX5, 23, yX4_at, "KinForms") (by decide +kernel)) (hlk (.initialized RX4) (by decide +kernel)) (by decide +kernel) ⟨Nat.le_of_ble_eq_true rfl, Nat.le_of_ble_eq_true rfl⟩, hlk (.static yX4_at) (by decide +kernel), trivial⟩ ⟨rPk_blind, rPk_at hK hP hN⟩ rfl rfl hl.1 rfl (lv_room (Nat.le_of_ble_eq_true rfl)) dX5_timesAt_33 ⟨Nat.zero_le _, Nat.zero_le _⟩) ?_
  refine lv_iload_n hx hb dX5_timesAt_36 rfl (lv_at hl 3 rfl) ?_
  refine lv_isub hx hb dX5_timesAt_37 ?_
  refine lv_imul hx hb dX5_timesAt_38 ?_
  refine lv_isub hx hb dX5_timesAt_39 ?_
  refine lv_topi (fun x6_4 e_x6_4 => ?_)
  have hF := nm_at hF e_x6_4
  refine lv_istore (lv' := [(6, .int x6_4), (5, .int x5_2), (4, .int x4_1), (0, .ref b), (1, .int p1), (2, .int p2), (3, .int p3)]) hx hb dX5_timesAt_40 hl (by decide) rfl (fun ls hl => ?_)
  refine lv_iload hx hb dX5_timesAt_42 (lv_at hl 2 rfl) ?_
  obtain ⟨k52, e_k52, hF⟩ := nm_ex hF
  have hk52 : ∀  (ls : Array Slot), lv_has ls 9 [] → k52 = some ro → W p l e rmX5_timesAt s m ([.ref b, .int p1, .int p2, .int p3] : List Value).toArray below meth c s.heap [] 0 0 Q (F0 m 52 ls []) := by
    intro ls hl hF
    have hF := ka0 e_k52 hF
    refine lv_iconst (v := 0) hx hb dX5_timesAt_52 (by decide) ?_
    have q0 := sm1 hF
    refine W_Qe hQ ?_
    exact W.iret hx hb hr (fun t ht hW => ⟨_, rfl, q0, ht⟩) (fun _ h9 => by cases h9) dX5_timesAt_53
  clear e_k52
  refine lv_if_le (tgt := 52) hx hb dX5_timesAt_44 (by decide) (fun c0 => ?_) (fun c0 => ?_)
  · have hF := if_t hF c0
    exact hk52 ls (lv_sub hl [] rfl) hF
  · have hF := if_f hF c0
    refine lv_iload hx hb dX5_timesAt_47 (lv_at hl 0 rfl) ?_
    refine lv_if_ge (tgt := 54) hx hb dX5_timesAt_49 (by decide) (fun c0 => ?_) (fun c0 => ?_)
    · have hF := if_t hF c0
      refine lv_iload hx hb dX5_timesAt_54 (lv_at hl 0 rfl) ?_
      obtain ⟨r_5, hc, hF⟩ := bd1_of hF
      refine rc_i (va_runS (As := [.int x6_4]) (rest := []) ⟨hx, hb, hml, hown, hts⟩ (c_X5_rootOf l fu x6_4 r_5 hc) (va_cwS 1 hts g_X5_timesAt_X5_rootOf rfl rfl rfl (by decide +kernel) ⟨Nat.le_of_ble_eq_true rfl, Nat.le_of_ble_eq_true rfl⟩) ⟨tPc_blind, tPc_at⟩ rfl rfl hl.1 rfl (lv_room (Nat.le_of_ble_eq_true rfl)) dX5_timesAt_56 ⟨Nat.zero_le _, Nat.zero_le _⟩) ?_
      refine lv_istore (lv' := [(7, .int r_5), (6, .int x6_4), (5, .int x5_2), (4, .int x4_1), (0, .ref b), (1, .int p1), (2, .int p2), (3, .int p3)]) hx hb dX5_timesAt_59 hl (by decide) rfl (fun ls hl => ?_)
      refine lv_iload hx hb dX5_timesAt_61 (lv_at hl 0 rfl) ?_
      refine lv_iload hx hb dX5_timesAt_63 (lv_at hl 0 rfl) ?_
      refine lv_imul hx hb dX5_timesAt_65 ?_
      refine lv_iload hx hb dX5_timesAt_66 (lv_at hl 1 rfl) ?_
      refine lv_icmp_eq (tgt := 73) hx hb dX5_timesAt_68 (by decide) (fun c0 => ?_) (fun c0 => ?_)
      · have hF := if_t hF c0
        refine lv_iload hx hb dX5_timesAt_73 (lv_at hl 0 rfl) ?_
        refine lv_iload hx hb dX5_timesAt_75 (lv_at hl 2 rfl) ?_
        refine lv_isub hx hb dX5_timesAt_77 ?_
        refine lv_iload hx hb dX5_timesAt_78 (lv_at hl 3 rfl) ?_
        obtain ⟨v_6, e_v_6, hF⟩ := nm_ex hF
        rw [← e_v_6]
        obtain ⟨hz, hF⟩ := ck_of hF
        refine lv_irem hx hb dX5_timesAt_80 hz ?_
        obtain ⟨k89, e_k89, hF⟩ := nm_ex hF
        have hk89 : ∀ (s_7 : Int32) (ls : Array Slot), lv_has ls 9 [(4, .int x4_1), (5, .int x5_2), (7, .int r_5)] → k89 s_7 = some ro → W p l e rmX5_timesAt s m ([.ref b, .int p1, .int p2, .int p3] : List Value).toArray below meth c s.heap [] 0 0 Q (F0 m 89 ls [.int s_7]) := by
          intro s_7 ls hl hF
          have hF := ka1 e_k89 hF
          refine lv_istore (lv' := [(8, .int s_7), (4, .int x4_1), (5, .int x5_2), (7, .int r_5)]) hx hb dX5_timesAt_89 hl (by decide) rfl (fun ls hl => ?_)
          refine lv_iload hx hb dX5_timesAt_91 (lv_at hl 3 rfl) ?_
          obtain ⟨k110, e_k110, hF⟩ := nm_ex hF
          have hk110 : ∀ (x8_10 : Int32) (ls : Array Slot), lv_has ls 9 [(8, .int x8_10)] → k110 x8_10 = some ro → W p l e rmX5_timesAt s m ([.ref b, .int p1, .int p2, .int p3] : List Value).toArray below meth c s.heap [] 0 0 Q (F0 m 110 ls []) := by
            intro x8_10 ls hl hF
            have hF := ka1 e_k110 hF
            refine lv_iload hx hb dX5_timesAt_110 (lv_at hl 0 rfl) ?_
            have q0 := sm1 hF
            refine W_Qe hQ ?_
            exact W.iret hx hb hr (fun t ht hW => ⟨_, rfl, q0, ht⟩) (fun _ h9 => by cases h9) dX5_timesAt_112
          clear e_k110
          refine lv_if_eq (tgt := 110) hx hb dX5_timesAt_93 (by decide) (fun c0 => ?_) (fun c0 => ?_)
          · have hF := if_t hF c0
            exact hk110 s_7 ls (lv_sub hl [0] rfl) hF
          · have hF := if_f hF c0
            refine lv_iload hx hb dX5_timesAt_96 (lv_at hl 3 rfl) ?_
            refine lv_iload hx hb dX5_timesAt_98 (lv_at hl 2 rfl) ?_
            refine lv_iadd hx hb dX5_timesAt_100 ?_
            refine lv_iload hx hb dX5_timesAt_101 (lv_at hl 1 rfl) ?_
            obtain ⟨v_8, e_v_8, hF⟩ := nm_ex hF
            rw [← e_v_8]
            obtain ⟨hz, hF⟩ := ck_of hF
            refine lv_irem hx hb dX5_timesAt_103 hz ?_
            refine lv_if_ne (tgt := 110) hx hb dX5_timesAt_104 (by decide) (fun c0 => ?_) (fun c0 => ?_)
            · have hF := if_f hF c0
              exact hk110 s_7 ls (lv_sub hl [0] rfl) hF
            · have hF := if_t hF c0
              obtain ⟨x8_9, e_x8_9, hF⟩ := nm_ex hF
              refine lv_iinc (v := x8_9) (lv' := [(8, .int x8_9), (4, .int x4_1), (5, .int x5_2), (7, .int r_5)]) hx hb dX5_timesAt_107 hl (k := 0) rfl (by rw [e_x8_9]; rfl) (by decide) rfl (fun ls hl => ?_)
              exact hk110 x8_9 ls (lv_sub hl [0] rfl) hF
        clear e_k89
        refine lv_if_ne (tgt := 88) hx hb dX5_timesAt_81 (by decide) (fun c0 => ?_) (fun c0 => ?_)
        · have hF := if_f hF c0
          refine lv_iconst (v := 0) hx hb dX5_timesAt_88 (by decide) ?_
          exact hk89 (0 : Int32) ls (lv_sub hl [3, 2, 0] rfl) hF
        · have hF := if_t hF c0
          refine lv_iconst (v := 1) hx hb dX5_timesAt_84 (by decide) ?_
          refine lv_goto (tgt := 89) hx hb dX5_timesAt_85 (by decide) ?_
          exact hk89 (1 : Int32) ls (lv_sub hl [3, 2, 0] rfl) hF
      · have hF := if_f hF c0
        refine lv_iconst (v := 0) hx hb dX5_timesAt_71 (by decide) ?_
        have q0 := sm1 hF
        refine W_Qe hQ ?_
        exact W.iret hx hb hr (fun t ht hW => ⟨_, rfl, q0, ht⟩) (fun _ h9 => by cases h9) dX5_timesAt_72
    · have hF := if_f hF c0
      exact hk52 ls (lv_sub hl [] rfl) hF
def fX5_timesOf_L81 (r_2 : Int32) (k107 : (Int32) → Option (Int32)) (fu : Nat) (six : Nat → Int32) (p1 : Int32) (x6_6 : Int32) : Nat → (Int32) → (Int32) → Option (Int32)
  | 0, _, _ => none
  | n + 1, x5_8, x7_9 => if r_2 < x7_9 then ((k107 x5_8)) else (bd1 (fX5_timesAt fu six p1 x7_9 x6_6) (fun (r_10 : Int32) => nm (x5_8 + r_10) (fun (x5_11 : Int32) => nm (x7_9 + (1 : Int32)) (fun (x7_12 : Int32) => (fX5_timesOf_L81 r_2 k107 fu six p1 x6_6 n x5_11 x7_12)))))
def fX5_timesOf_L70 (r_3 : Int32) (r_2 : Int32) (fu : Nat) (six : Nat → Int32) (p1 : Int32) : Nat → (Int32) → (Int32) → Option (Int32)
  | 0, _, _ => none
  | n + 1, x5_5, x6_6 => if r_3 < x6_6 then (some x5_5) else (nm (-r_2) (fun (x7_7 : Int32) => nm (fun (x5_13 : Int32) => nm (x6_6 + (1 : Int32)) (fun (x6_14 : Int32) => (fX5_timesOf_L70 r_3 r_2 fu six p1 n x5_13 x6_14))) (fun (k107 : (Int32) → Option (Int32)) => (fX5_timesOf_L81 r_2 k107 fu six p1 x6_6 fu x5_5 x7_7))))
def fX5_timesOf (fu : Nat) (six : Nat → Int32) (p1 : Int32) : Option (Int32) :=
  bd1 (fX4_discOf six) (fun (r_1 : Int32) => if 0 < r_1 then (if ¬ r_1 = 0 then bd1 (fX5_rootOf fu ((p1 * ((((4 : Int32) * (six 0)) * (six 2)) - ((six 4) * (six 4)))) / r_1)) (fun (r_2 : Int32) => if ¬ r_1 = 0 then bd1 (fX5_rootOf fu ((p1 * ((((4 : Int32) * (six 0)) * (six 1)) - ((six 5) * (six 5)))) / r_1)) (fun (r_3 : Int32) => nm (-r_3) (fun (x6_4 : Int32) => (fX5_timesOf_L70 r_3 r_2 fu six p1 fu (0 : Int32) x6_4))) else none) else none) else (some (0 : Int32)))
def lkX5_timesOf : List Cond := [.initialized RX4, .static yX4_discOf]
def vX5_timesOf : List Cond := .code yX5_timesOf cX5_timesOf 8 (some .int) :: (lkX5_timesOf ++ (vX4_discOf ++ (va_wsS RX5 13 yX5_rootOf vX5_rootOf ++ (va_wsS RX5 19 yX5_timesAt vX5_timesAt ++ ([])))))
theorem q_X5_timesOf : ∀ w ∈ vX5_timesOf, goodWord w = true := gd_cons rfl (gd_app (by decide +kernel) (gd_app q_X4_discOf (gd_app (gd_S q_X5_rootOf) (gd_app (gd_S q_X5_timesAt) gd_nil))))
theorem g_X5_timesOf_X4_discOf : GoodIn vX5_timesOf (vX4_discOf) := gi_of (fun w h => List.mem_cons_of_mem _ (List.mem_append_right _ (List.mem_append_left _ h))) q_X4_discOf
theorem g_X5_timesOf_X5_rootOf : GoodIn vX5_timesOf (va_wsS RX5 13 yX5_rootOf vX5_rootOf) := gi_of (fun w h => List.mem_cons_of_mem _ (List.mem_append_right _ (List.mem_append_right _ (List.mem_append_left _ h)))) (gd_S q_X5_rootOf)
theorem g_X5_timesOf_X5_timesAt : GoodIn vX5_timesOf (va_wsS RX5 19 yX5_timesAt vX5_timesAt) := gi_of (fun w h => List.mem_cons_of_mem _ (List.mem_append_right _ (List.mem_append_right _ (List.mem_append_right _ (List.mem_append_left _ h))))) (gd_S q_X5_timesAt)
abbrev rmX5_timesOf : Room := { frames := 2, cells := 0, slots := 0, locals := 51 }
set_option maxHeartbeats 4000000 in
set_option maxRecDepth 100000 in
theorem c_X5_timesOf (l : Launch) (dC : Nat → ClassId) (dI : Nat → Nat → Nat) (cI : ClassId) (b : Nat) (fu : Nat) (six : Nat → Int32) (p1 : Int32) (ro : Int32) (hF : fX5_timesOf fu six p1 = some ro) : Met l yX5_timesOf vX5_timesOf rmX5_timesOf (va_Pc [.ref b, .int p1] (rPk (dC, dI) vwCl (sW1 cI b six) [(cI, .int)])) (vp_Si (fun x => x = ro)) 0 0 (fun _ => False) := by
  refine Met.ofW (cc := cX5_timesOf) (maxL := 8) (ret := (some .int)) (by decide) rfl ?_
  intro p e s m args below meth c s₁ B hml hv
  obtain ⟨rfl, hP, hK, hN⟩ := hv
  have hx := B.exec
  have hb := B.bytes
  have hr := B.returns
  have hts := atoms_spec (ws := vX5_timesOf) B.pre
  have hlk : ∀ w ∈ lkX5_timesOf, w.before _ s = true := fun w h => hts w (List.mem_cons_of_mem _ (List.mem_append_left _ h))
  have hown : s.vm.findClass RX5 = some m.cls := findClass_of_methodNamed B.named
  have hlocks := B.notSynchronized
  have hl := lv_entry ([.ref b, .int p1] : List Value) (n := 8) (Nat.le_of_ble_eq_true rfl)
  rw [lg_entry_eq]
  generalize (lg_sl ([.ref b, .int p1] : List Value) ++ List.replicate (8 - (lg_sl ([.ref b, .int p1] : List Value)).length) Slot.unset).toArray = ls at hl ⊢
  have hl : lv_has ls 8 [(0, .ref b), (1, .int p1)] := hl
  unfold fX5_timesOf at hF
  refine W_Q (fun Q hQ => ?_)
  refine lv_aload_n hx hb dX5_timesOf_0 rfl (lv_at hl 0 rfl) ?_
  obtain ⟨r_1, hc, hF⟩ := bd1_of hF
  refine rc_i (va_runSN (As := [.ref b]) (rest := []) ⟨hx, hb, hml, hown, hts⟩ (c_X4_discOf l dC dI cI b six  r_1 hc) ⟨va_cnB 1 hts g_X5_timesOf_X4_discOf rfl rfl rfl (hN.2 (RX5, 7, yX4_discOf, "KinForms") (by decide +kernel)) (hlk (.initialized RX4) (by decide +kernel)) (by decide +kernel) ⟨Nat.le_of_ble_eq_true rfl, Nat.le_of_ble_eq_true rfl⟩, hlk (.static yX4_discOf) (by decide +kernel), trivial⟩ ⟨rPk_blind, rPk_at hK hP hN⟩ rfl rfl hl.1 rfl (lv_room (Nat.le_of_ble_eq_true rfl)) dX5_timesOf_1 ⟨Nat.zero_le _, Nat.zero_le _⟩) ?_
  refine lv_istore_n (lv' := [(2, .int r_1), (0, .ref b), (1, .int p1)]) hx hb dX5_timesOf_4 rfl hl (by decide) rfl (fun ls hl => ?_)
  refine lv_iload_n hx hb dX5_timesOf_5 rfl (lv_at hl 0 rfl) ?_
  refine lv_if_gt (tgt := 11) hx hb dX5_timesOf_6 (by decide) (fun c0 => ?_) (fun c0 => ?_)
  · have hF := if_t hF c0
    refine lv_iload_n hx hb dX5_timesOf_11 rfl (lv_at hl 2 rfl) ?_
    refine lv_iconst (v := 4) hx hb dX5_timesOf_12 (by decide) ?_
    refine lv_aload_n hx hb dX5_timesOf_13 rfl (lv_at hl 1 rfl) ?_
    refine lv_iconst (v := 0) hx hb dX5_timesOf_14 (by decide) ?_
    refine kc_iald (j := 0) hx hb hK hP 0 0 rfl rfl (by decide) (by decide) dX5_timesOf_15 ?_
    refine lv_imul hx hb dX5_timesOf_16 ?_
    refine lv_aload_n hx hb dX5_timesOf_17 rfl (lv_at hl 1 rfl) ?_
    refine lv_iconst (v := 2) hx hb dX5_timesOf_18 (by decide) ?_
    refine kc_iald (j := 2) hx hb hK hP 0 0 rfl rfl (by decide) (by decide) dX5_timesOf_19 ?_
    refine lv_imul hx hb dX5_timesOf_20 ?_
    refine lv_aload_n hx hb dX5_timesOf_21 rfl (lv_at hl 1 rfl) ?_
    refine lv_iconst (v := 4) hx hb dX5_timesOf_22 (by decide) ?_
    refine kc_iald (j := 4) hx hb hK hP 0 0 rfl rfl (by decide) (by decide) dX5_timesOf_23 ?_
    refine lv_aload_n hx hb dX5_timesOf_24 rfl (lv_at hl 1 rfl) ?_
    refine lv_iconst (v := 4) hx hb dX5_timesOf_25 (by decide) ?_
    refine kc_iald (j := 4) hx hb hK hP 0 0 rfl rfl (by decide) (by decide) dX5_timesOf_26 ?_
    refine lv_imul hx hb dX5_timesOf_27 ?_
    refine lv_isub hx hb dX5_timesOf_28 ?_
    refine lv_imul hx hb dX5_timesOf_29 ?_
    refine lv_iload_n hx hb dX5_timesOf_30 rfl (lv_at hl 0 rfl) ?_
    obtain ⟨hz, hF⟩ := ck_of hF
    refine lv_idiv hx hb dX5_timesOf_31 hz ?_
    obtain ⟨r_2, hc, hF⟩ := bd1_of hF
    refine rc_i (va_runS (As := [.int ((p1 * ((((4 : Int32) * (six 0)) * (six 2)) - ((six 4) * (six 4)))) / r_1)]) (rest := []) ⟨hx, hb, hml, hown, hts⟩ (c_X5_rootOf l fu ((p1 * ((((4 : Int32) * (six 0)) * (six 2)) - ((six 4) * (six 4)))) / r_1) r_2 hc) (va_cwS 1 hts g_X5_timesOf_X5_rootOf rfl rfl rfl (by decide +kernel) ⟨Nat.le_of_ble_eq_true rfl, Nat.le_of_ble_eq_true rfl⟩) ⟨tPc_blind, tPc_at⟩ rfl rfl hl.1 rfl (lv_room (Nat.le_of_ble_eq_true rfl)) dX5_timesOf_32 ⟨Nat.zero_le _, Nat.zero_le _⟩) ?_
    refine lv_istore_n (lv' := [(3, .int r_2), (2, .int r_1), (0, .ref b), (1, .int p1)]) hx hb dX5_timesOf_35 rfl hl (by decide) rfl (fun ls hl => ?_)
    refine lv_iload_n hx hb dX5_timesOf_36 rfl (lv_at hl 3 rfl) ?_
    refine lv_iconst (v := 4) hx hb dX5_timesOf_37 (by decide) ?_
    refine lv_aload_n hx hb dX5_timesOf_38 rfl (lv_at hl 2 rfl) ?_
    refine lv_iconst (v := 0) hx hb dX5_timesOf_39 (by decide) ?_
    refine kc_iald (j := 0) hx hb hK hP 0 0 rfl rfl (by decide) (by decide) dX5_timesOf_40 ?_
    refine lv_imul hx hb dX5_timesOf_41 ?_
    refine lv_aload_n hx hb dX5_timesOf_42 rfl (lv_at hl 2 rfl) ?_
    refine lv_iconst (v := 1) hx hb dX5_timesOf_43 (by decide) ?_
    refine kc_iald (j := 1) hx hb hK hP 0 0 rfl rfl (by decide) (by decide) dX5_timesOf_44 ?_
    refine lv_imul hx hb dX5_timesOf_45 ?_
    refine lv_aload_n hx hb dX5_timesOf_46 rfl (lv_at hl 2 rfl) ?_
    refine lv_iconst (v := 5) hx hb dX5_timesOf_47 (by decide) ?_
    refine kc_iald (j := 5) hx hb hK hP 0 0 rfl rfl (by decide) (by decide) dX5_timesOf_48 ?_
    refine lv_aload_n hx hb dX5_timesOf_49 rfl (lv_at hl 2 rfl) ?_
    refine lv_iconst (v := 5) hx hb dX5_timesOf_50 (by decide) ?_
    refine kc_iald (j := 5) hx hb hK hP 0 0 rfl rfl (by decide) (by decide) dX5_timesOf_51 ?_
    refine lv_imul hx hb dX5_timesOf_52 ?_
    refine lv_isub hx hb dX5_timesOf_53 ?_
    refine lv_imul hx hb dX5_timesOf_54 ?_
    refine lv_iload_n hx hb dX5_timesOf_55 rfl (lv_at hl 1 rfl) ?_
    obtain ⟨hz, hF⟩ := ck_of hF
    refine lv_idiv hx hb dX5_timesOf_56 hz ?_
    obtain ⟨r_3, hc, hF⟩ := bd1_of hF
    refine rc_i (va_runS (As := [.int ((p1 * ((((4 : Int32) * (six 0)) * (six 1)) - ((six 5) * (six 5)))) / r_1)]) (rest := []) ⟨hx, hb, hml, hown, hts⟩ (c_X5_rootOf l fu ((p1 * ((((4 : Int32) * (six 0)) * (six 1)) - ((six 5) * (six 5)))) / r_1) r_3 hc) (va_cwS 1 hts g_X5_timesOf_X5_rootOf rfl rfl rfl (by decide +kernel) ⟨Nat.le_of_ble_eq_true rfl, Nat.le_of_ble_eq_true rfl⟩) ⟨tPc_blind, tPc_at⟩ rfl rfl hl.1 rfl (lv_room (Nat.le_of_ble_eq_true rfl)) dX5_timesOf_57 ⟨Nat.zero_le _, Nat.zero_le _⟩) ?_
    refine lv_istore (lv' := [(4, .int r_3), (3, .int r_2), (2, .int r_1), (0, .ref b), (1, .int p1)]) hx hb dX5_timesOf_60 hl (by decide) rfl (fun ls hl => ?_)
    refine lv_iconst (v := 0) hx hb dX5_timesOf_62 (by decide) ?_
    refine lv_istore (lv' := [(5, .int (0 : Int32)), (4, .int r_3), (3, .int r_2), (2, .int r_1), (0, .ref b), (1, .int p1)]) hx hb dX5_timesOf_63 hl (by decide) rfl (fun ls hl => ?_)
    refine lv_iload hx hb dX5_timesOf_65 (lv_at hl 1 rfl) ?_
    refine lv_ineg hx hb dX5_timesOf_67 ?_
    refine lv_topi (fun x6_4 e_x6_4 => ?_)
    have hF := nm_at hF e_x6_4
    refine lv_istore (lv' := [(6, .int x6_4), (5, .int (0 : Int32)), (4, .int r_3), (3, .int r_2), (2, .int r_1), (0, .ref b), (1, .int p1)]) hx hb dX5_timesOf_68 hl (by decide) rfl (fun ls hl => ?_)
    have hL70 : ∀ n : Nat, ∀ (x5_5 : Int32) (x6_6 : Int32) (ls : Array Slot), lv_has ls 8 [(0, .ref b), (1, .int p1), (3, .int r_2), (4, .int r_3), (5, .int x5_5), (6, .int x6_6)] → fX5_timesOf_L70 r_3 r_2 fu six p1 n x5_5 x6_6 = some ro → W p l e rmX5_timesOf s m ([.ref b, .int p1] : List Value).toArray below meth c s.heap [] 0 0 Q (F0 m 70 ls []) := by
      intro n
      induction n with
      | zero => intro x5_5 x6_6 ls hl hF; rw [fX5_timesOf_L70] at hF; cases hF
      | succ n ih70 =>
        intro x5_5 x6_6 ls hl hF
        rw [fX5_timesOf_L70] at hF
        refine lv_iload hx hb dX5_timesOf_70 (lv_at hl 5 rfl) ?_
        refine lv_iload hx hb dX5_timesOf_72 (lv_at hl 3 rfl) ?_
        refine lv_icmp_gt (tgt := 113) hx hb dX5_timesOf_74 (by decide) (fun c0 => ?_) (fun c0 => ?_)
        · have hF := if_t hF c0
          refine lv_iload hx hb dX5_timesOf_113 (lv_at hl 4 rfl) ?_
          have q0 := sm1 hF
          refine W_Qe hQ ?_
          exact W.iret hx hb hr (fun t ht hW => ⟨_, rfl, q0, ht⟩) (fun _ h9 => by cases h9) dX5_timesOf_115
        · have hF := if_f hF c0
          refine lv_iload_n hx hb dX5_timesOf_77 rfl (lv_at hl 2 rfl) ?_
          refine lv_ineg hx hb dX5_timesOf_78 ?_
          refine lv_topi (fun x7_7 e_x7_7 => ?_)
          have hF := nm_at hF e_x7_7
          refine lv_istore (lv' := [(7, .int x7_7), (0, .ref b), (1, .int p1), (3, .int r_2), (4, .int r_3), (5, .int x5_5), (6, .int x6_6)]) hx hb dX5_timesOf_79 hl (by decide) rfl (fun ls hl => ?_)
          obtain ⟨k107, e_k107, hF⟩ := nm_ex hF
          have hk107 : ∀ (x5_13 : Int32) (ls : Array Slot), lv_has ls 8 [(0, .ref b), (1, .int p1), (3, .int r_2), (4, .int r_3), (5, .int x5_13), (6, .int x6_6)] → k107 x5_13 = some ro → W p l e rmX5_timesOf s m ([.ref b, .int p1] : List Value).toArray below meth c s.heap [] 0 0 Q (F0 m 107 ls []) := by
            intro x5_13 ls hl hF
            have hF := ka1 e_k107 hF
            obtain ⟨x6_14, e_x6_14, hF⟩ := nm_ex hF
            refine lv_iinc (v := x6_14) (lv' := [(6, .int x6_14), (0, .ref b), (1, .int p1), (3, .int r_2), (4, .int r_3), (5, .int x5_13)]) hx hb dX5_timesOf_107 hl (k := 5) rfl (by rw [e_x6_14]; rfl) (by decide) rfl (fun ls hl => ?_)
            refine lv_goto (tgt := 70) hx hb dX5_timesOf_110 (by decide) ?_
            exact ih70 x5_13 x6_14 ls (lv_sub hl [1, 2, 3, 4, 5, 0] rfl) hF
          clear e_k107
          have hL81 : ∀ n : Nat, ∀ (x5_8 : Int32) (x7_9 : Int32) (ls : Array Slot), lv_has ls 8 [(0, .ref b), (1, .int p1), (3, .int r_2), (4, .int r_3), (5, .int x5_8), (6, .int x6_6), (7, .int x7_9)] → fX5_timesOf_L81 r_2 k107 fu six p1 x6_6 n x5_8 x7_9 = some ro → W p l e rmX5_timesOf s m ([.ref b, .int p1] : List Value).toArray below meth c s.heap [] 0 0 Q (F0 m 81 ls []) := by
            intro n
            induction n with
            | zero => intro x5_8 x7_9 ls hl hF; rw [fX5_timesOf_L81] at hF; cases hF
            | succ n ih81 =>
              intro x5_8 x7_9 ls hl hF
              rw [fX5_timesOf_L81] at hF
              refine lv_iload hx hb dX5_timesOf_81 (lv_at hl 6 rfl) ?_
              refine lv_iload_n hx hb dX5_timesOf_83 rfl (lv_at hl 2 rfl) ?_
              refine lv_icmp_gt (tgt := 107) hx hb dX5_timesOf_84 (by decide) (fun c0 => ?_) (fun c0 => ?_)
              · have hF := if_t hF c0
                exact hk107 x5_8 ls (lv_sub hl [0, 1, 2, 3, 4, 5] rfl) hF
              · have hF := if_f hF c0
                refine lv_iload hx hb dX5_timesOf_87 (lv_at hl 4 rfl) ?_
                refine lv_aload_n hx hb dX5_timesOf_89 rfl (lv_at hl 0 rfl) ?_
                refine lv_iload_n hx hb dX5_timesOf_90 rfl (lv_at hl 1 rfl) ?_
                refine lv_iload hx hb dX5_timesOf_91 (lv_at hl 6 rfl) ?_
                refine lv_iload hx hb dX5_timesOf_93 (lv_at hl 5 rfl) ?_
                obtain ⟨r_10, hc, hF⟩ := bd1_of hF
                refine rc_i (va_runS (As := [.ref b, .int p1, .int x7_9, .int x6_6]) (rest := [.int x5_8]) ⟨hx, hb, hml, hown, hts⟩ (c_X5_timesAt l dC dI cI b fu six p1 x7_9 x6_6 r_10 hc) (va_cwS 4 hts g_X5_timesOf_X5_timesAt rfl rfl rfl (by decide +kernel) ⟨Nat.le_of_ble_eq_true rfl, Nat.le_of_ble_eq_true rfl⟩) ⟨rPk_blind, rPk_at hK hP hN⟩ rfl rfl hl.1 rfl (lv_room (Nat.le_of_ble_eq_true rfl)) dX5_timesOf_95 ⟨Nat.zero_le _, Nat.zero_le _⟩) ?_
                refine lv_iadd hx hb dX5_timesOf_98 ?_
                refine lv_topi (fun x5_11 e_x5_11 => ?_)
                have hF := nm_at hF e_x5_11
                refine lv_istore (lv' := [(5, .int x5_11), (0, .ref b), (1, .int p1), (3, .int r_2), (4, .int r_3), (6, .int x6_6), (7, .int x7_9)]) hx hb dX5_timesOf_99 hl (by decide) rfl (fun ls hl => ?_)
                obtain ⟨x7_12, e_x7_12, hF⟩ := nm_ex hF
                refine lv_iinc (v := x7_12) (lv' := [(7, .int x7_12), (5, .int x5_11), (0, .ref b), (1, .int p1), (3, .int r_2), (4, .int r_3), (6, .int x6_6)]) hx hb dX5_timesOf_101 hl (k := 6) rfl (by rw [e_x7_12]; rfl) (by decide) rfl (fun ls hl => ?_)
                refine lv_goto (tgt := 81) hx hb dX5_timesOf_104 (by decide) ?_
                exact ih81 x5_11 x7_12 ls (lv_sub hl [2, 3, 4, 5, 1, 6, 0] rfl) hF
          exact hL81 fu x5_5 x7_7 ls (lv_sub hl [1, 2, 3, 4, 5, 6, 0] rfl) hF
    exact hL70 fu (0 : Int32) x6_4 ls (lv_sub hl [5, 6, 3, 2, 1, 0] rfl) hF
  · have hF := if_f hF c0
    refine lv_iconst (v := 0) hx hb dX5_timesOf_9 (by decide) ?_
    have q0 := sm1 hF
    refine W_Qe hQ ?_
    exact W.iret hx hb hr (fun t ht hW => ⟨_, rfl, q0, ht⟩) (fun _ h9 => by cases h9) dX5_timesOf_10
def fX6_areTable (n2 : Nat) (rows : Nat → Int32) (p1 : Int32) (p2 : Int32) (p3 : Int32) : Option (Int32) :=
  if okI p1 n2 then nm (p2 + (1 : Int32)) (fun (v_1 : Int32) => if okI v_1 n2 then nm (p3 + (2 : Int32)) (fun (v_2 : Int32) => if okI v_2 n2 then nm (p2 + (2 : Int32)) (fun (v_3 : Int32) => if okI v_3 n2 then nm (p3 + (1 : Int32)) (fun (v_4 : Int32) => if okI v_4 n2 then nm (p1 + (1 : Int32)) (fun (v_5 : Int32) => if okI v_5 n2 then if okI p2 n2 then nm (p3 + (2 : Int32)) (fun (v_6 : Int32) => if okI v_6 n2 then nm (p2 + (2 : Int32)) (fun (v_7 : Int32) => if okI v_7 n2 then if okI p3 n2 then nm (p1 + (2 : Int32)) (fun (v_8 : Int32) => if okI v_8 n2 then if okI p2 n2 then nm (p3 + (1 : Int32)) (fun (v_9 : Int32) => if okI v_9 n2 then nm (p2 + (1 : Int32)) (fun (v_10 : Int32) => if okI v_10 n2 then if okI p3 n2 then nm ((((rows p1.toNatClampNeg) * (((rows v_1.toNatClampNeg) * (rows v_2.toNatClampNeg)) - ((rows v_3.toNatClampNeg) * (rows v_4.toNatClampNeg)))) - ((rows v_5.toNatClampNeg) * (((rows p2.toNatClampNeg) * (rows v_6.toNatClampNeg)) - ((rows v_7.toNatClampNeg) * (rows p3.toNatClampNeg))))) + ((rows v_8.toNatClampNeg) * (((rows p2.toNatClampNeg) * (rows v_9.toNatClampNeg)) - ((rows v_10.toNatClampNeg) * (rows p3.toNatClampNeg))))) (fun (x4_11 : Int32) => nm (fun (s_12 : Int32) => if s_12 = 0 ∨ s_12 = 1 then some s_12 else none) (fun (k98 : (Int32) → Option (Int32)) => nm ((k98 (1 : Int32))) (fun (k93 : Option (Int32)) => if x4_11 = (1 : Int32) then ((k93)) else (if x4_11 = (-1 : Int32) then ((k93)) else ((k98 (0 : Int32))))))) else none else none) else none) else none else none) else none else none) else none) else none else none) else none) else none) else none) else none) else none
def lkX6_areTable : List Cond := []
def vX6_areTable : List Cond := .code yX6_areTable cX6_areTable 5 (some .boolean) :: (lkX6_areTable ++ ([]))
theorem q_X6_areTable : ∀ w ∈ vX6_areTable, goodWord w = true := gd_cons rfl (gd_app (by decide +kernel) gd_nil)
abbrev rmX6_areTable : Room := { frames := 0, cells := 0, slots := 0, locals := 0 }
set_option maxHeartbeats 4000000 in
set_option maxRecDepth 100000 in
theorem c_X6_areTable (l : Launch) (dC : Nat → ClassId) (dI : Nat → Nat → Nat) (cI : ClassId) (b2 : Nat) (n2 : Nat) (rows : Nat → Int32) (p1 : Int32) (p2 : Int32) (p3 : Int32) (ro : Int32) (hF : fX6_areTable n2 rows p1 p2 p3 = some ro) : Met l yX6_areTable vX6_areTable rmX6_areTable (va_Pc [.ref b2, .int p1, .int p2, .int p3] (rPk (dC, dI) vwCl (tW1 cI b2 n2 rows) [(cI, .int)])) (vp_Si (fun x => x = ro)) 0 0 (fun _ => False) := by
  refine Met.ofW (cc := cX6_areTable) (maxL := 5) (ret := (some .boolean)) (by decide) rfl ?_
  intro p e s m args below meth c s₁ B hml hv
  obtain ⟨rfl, hP, hK, hN⟩ := hv
  have hx := B.exec
  have hb := B.bytes
  have hr := B.returns
  have hts := atoms_spec (ws := vX6_areTable) B.pre
  have hlk : ∀ w ∈ lkX6_areTable, w.before _ s = true := fun w h => hts w (List.mem_cons_of_mem _ (List.mem_append_left _ h))
  have hown : s.vm.findClass RX6 = some m.cls := findClass_of_methodNamed B.named
  have hlocks := B.notSynchronized
  have hl := lv_entry ([.ref b2, .int p1, .int p2, .int p3] : List Value) (n := 5) (Nat.le_of_ble_eq_true rfl)
  rw [lg_entry_eq]
  generalize (lg_sl ([.ref b2, .int p1, .int p2, .int p3] : List Value) ++ List.replicate (5 - (lg_sl ([.ref b2, .int p1, .int p2, .int p3] : List Value)).length) Slot.unset).toArray = ls at hl ⊢
  have hl : lv_has ls 5 [(0, .ref b2), (1, .int p1), (2, .int p2), (3, .int p3)] := hl
  unfold fX6_areTable at hF
  refine W_Q (fun Q hQ => ?_)
  refine lv_aload_n hx hb dX6_areTable_0 rfl (lv_at hl 0 rfl) ?_
  refine lv_iload_n hx hb dX6_areTable_1 rfl (lv_at hl 1 rfl) ?_
  obtain ⟨hi, hF⟩ := ck_of hF
  refine va_iald hx hb hK hP 0 0 rfl rfl hi dX6_areTable_2 ?_
  refine lv_aload_n hx hb dX6_areTable_3 rfl (lv_at hl 0 rfl) ?_
  refine lv_iload_n hx hb dX6_areTable_4 rfl (lv_at hl 2 rfl) ?_
  refine lv_iconst (v := 1) hx hb dX6_areTable_5 (by decide) ?_
  refine lv_iadd hx hb dX6_areTable_6 ?_
  refine lv_topi (fun v_1 e_v_1 => ?_)
  have hF := nm_at hF e_v_1
  obtain ⟨hi, hF⟩ := ck_of hF
  refine va_iald hx hb hK hP 0 0 rfl rfl hi dX6_areTable_7 ?_
  refine lv_aload_n hx hb dX6_areTable_8 rfl (lv_at hl 0 rfl) ?_
  refine lv_iload_n hx hb dX6_areTable_9 rfl (lv_at hl 3 rfl) ?_
  refine lv_iconst (v := 2) hx hb dX6_areTable_10 (by decide) ?_
  refine lv_iadd hx hb dX6_areTable_11 ?_
  refine lv_topi (fun v_2 e_v_2 => ?_)
  have hF := nm_at hF e_v_2
  obtain ⟨hi, hF⟩ := ck_of hF
  refine va_iald hx hb hK hP 0 0 rfl rfl hi dX6_areTable_12 ?_
  refine lv_imul hx hb dX6_areTable_13 ?_
  refine lv_aload_n hx hb dX6_areTable_14 rfl (lv_at hl 0 rfl) ?_
  refine lv_iload_n hx hb dX6_areTable_15 rfl (lv_at hl 2 rfl) ?_
  refine lv_iconst (v := 2) hx hb dX6_areTable_16 (by decide) ?_
  refine lv_iadd hx hb dX6_areTable_17 ?_
  refine lv_topi (fun v_3 e_v_3 => ?_)
  have hF := nm_at hF e_v_3
  obtain ⟨hi, hF⟩ := ck_of hF
  refine va_iald hx hb hK hP 0 0 rfl rfl hi dX6_areTable_18 ?_
  refine lv_aload_n hx hb dX6_areTable_19 rfl (lv_at hl 0 rfl) ?_
  refine lv_iload_n hx hb dX6_areTable_20 rfl (lv_at hl 3 rfl) ?_
  refine lv_iconst (v := 1) hx hb dX6_areTable_21 (by decide) ?_
  refine lv_iadd hx hb dX6_areTable_22 ?_
  refine lv_topi (fun v_4 e_v_4 => ?_)
  have hF := nm_at hF e_v_4
  obtain ⟨hi, hF⟩ := ck_of hF
  refine va_iald hx hb hK hP 0 0 rfl rfl hi dX6_areTable_23 ?_
  refine lv_imul hx hb dX6_areTable_24 ?_
  refine lv_isub hx hb dX6_areTable_25 ?_
  refine lv_imul hx hb dX6_areTable_26 ?_
  refine lv_aload_n hx hb dX6_areTable_27 rfl (lv_at hl 0 rfl) ?_
  refine lv_iload_n hx hb dX6_areTable_28 rfl (lv_at hl 1 rfl) ?_
  refine lv_iconst (v := 1) hx hb dX6_areTable_29 (by decide) ?_
  refine lv_iadd hx hb dX6_areTable_30 ?_
  refine lv_topi (fun v_5 e_v_5 => ?_)
  have hF := nm_at hF e_v_5
  obtain ⟨hi, hF⟩ := ck_of hF
  refine va_iald hx hb hK hP 0 0 rfl rfl hi dX6_areTable_31 ?_
  refine lv_aload_n hx hb dX6_areTable_32 rfl (lv_at hl 0 rfl) ?_
  refine lv_iload_n hx hb dX6_areTable_33 rfl (lv_at hl 2 rfl) ?_
  obtain ⟨hi, hF⟩ := ck_of hF
  refine va_iald hx hb hK hP 0 0 rfl rfl hi dX6_areTable_34 ?_
  refine lv_aload_n hx hb dX6_areTable_35 rfl (lv_at hl 0 rfl) ?_
  refine lv_iload_n hx hb dX6_areTable_36 rfl (lv_at hl 3 rfl) ?_
  refine lv_iconst (v := 2) hx hb dX6_areTable_37 (by decide) ?_
  refine lv_iadd hx hb dX6_areTable_38 ?_
  refine lv_topi (fun v_6 e_v_6 => ?_)
  have hF := nm_at hF e_v_6
  obtain ⟨hi, hF⟩ := ck_of hF
  refine va_iald hx hb hK hP 0 0 rfl rfl hi dX6_areTable_39 ?_
  refine lv_imul hx hb dX6_areTable_40 ?_
  refine lv_aload_n hx hb dX6_areTable_41 rfl (lv_at hl 0 rfl) ?_
  refine lv_iload_n hx hb dX6_areTable_42 rfl (lv_at hl 2 rfl) ?_
  refine lv_iconst (v := 2) hx hb dX6_areTable_43 (by decide) ?_
  refine lv_iadd hx hb dX6_areTable_44 ?_
  refine lv_topi (fun v_7 e_v_7 => ?_)
  have hF := nm_at hF e_v_7
  obtain ⟨hi, hF⟩ := ck_of hF
  refine va_iald hx hb hK hP 0 0 rfl rfl hi dX6_areTable_45 ?_
  refine lv_aload_n hx hb dX6_areTable_46 rfl (lv_at hl 0 rfl) ?_
  refine lv_iload_n hx hb dX6_areTable_47 rfl (lv_at hl 3 rfl) ?_
  obtain ⟨hi, hF⟩ := ck_of hF
  refine va_iald hx hb hK hP 0 0 rfl rfl hi dX6_areTable_48 ?_
  refine lv_imul hx hb dX6_areTable_49 ?_
  refine lv_isub hx hb dX6_areTable_50 ?_
  refine lv_imul hx hb dX6_areTable_51 ?_
  refine lv_isub hx hb dX6_areTable_52 ?_
  refine lv_aload_n hx hb dX6_areTable_53 rfl (lv_at hl 0 rfl) ?_
  refine lv_iload_n hx hb dX6_areTable_54 rfl (lv_at hl 1 rfl) ?_
  refine lv_iconst (v := 2) hx hb dX6_areTable_55 (by decide) ?_
  refine lv_iadd hx hb dX6_areTable_56 ?_
  refine lv_topi (fun v_8 e_v_8 => ?_)
  have hF := nm_at hF e_v_8
  obtain ⟨hi, hF⟩ := ck_of hF
  refine va_iald hx hb hK hP 0 0 rfl rfl hi dX6_areTable_57 ?_
  refine lv_aload_n hx hb dX6_areTable_58 rfl (lv_at hl 0 rfl) ?_
  refine lv_iload_n hx hb dX6_areTable_59 rfl (lv_at hl 2 rfl) ?_
  obtain ⟨hi, hF⟩ := ck_of hF
  refine va_iald hx hb hK hP 0 0 rfl rfl hi dX6_areTable_60 ?_
  refine lv_aload_n hx hb dX6_areTable_61 rfl (lv_at hl 0 rfl) ?_
  refine lv_iload_n hx hb dX6_areTable_62 rfl (lv_at hl 3 rfl) ?_
  refine lv_iconst (v := 1) hx hb dX6_areTable_63 (by decide) ?_
  refine lv_iadd hx hb dX6_areTable_64 ?_
  refine lv_topi (fun v_9 e_v_9 => ?_)
  have hF := nm_at hF e_v_9
  obtain ⟨hi, hF⟩ := ck_of hF
  refine va_iald hx hb hK hP 0 0 rfl rfl hi dX6_areTable_65 ?_
  refine lv_imul hx hb dX6_areTable_66 ?_
  refine lv_aload_n hx hb dX6_areTable_67 rfl (lv_at hl 0 rfl) ?_
  refine lv_iload_n hx hb dX6_areTable_68 rfl (lv_at hl 2 rfl) ?_
  refine lv_iconst (v := 1) hx hb dX6_areTable_69 (by decide) ?_
  refine lv_iadd hx hb dX6_areTable_70 ?_
  refine lv_topi (fun v_10 e_v_10 => ?_)
  have hF := nm_at hF e_v_10
  obtain ⟨hi, hF⟩ := ck_of hF
  refine va_iald hx hb hK hP 0 0 rfl rfl hi dX6_areTable_71 ?_
  refine lv_aload_n hx hb dX6_areTable_72 rfl (lv_at hl 0 rfl) ?_
  refine lv_iload_n hx hb dX6_areTable_73 rfl (lv_at hl 3 rfl) ?_
  obtain ⟨hi, hF⟩ := ck_of hF
  refine va_iald hx hb hK hP 0 0 rfl rfl hi dX6_areTable_74 ?_
  refine lv_imul hx hb dX6_areTable_75 ?_
  refine lv_isub hx hb dX6_areTable_76 ?_
  refine lv_imul hx hb dX6_areTable_77 ?_
  refine lv_iadd hx hb dX6_areTable_78 ?_
  refine lv_topi (fun x4_11 e_x4_11 => ?_)
  have hF := nm_at hF e_x4_11
  refine lv_istore (lv' := [(4, .int x4_11), (0, .ref b2), (1, .int p1), (2, .int p2), (3, .int p3)]) hx hb dX6_areTable_79 hl (by decide) rfl (fun ls hl => ?_)
  refine lv_iload hx hb dX6_areTable_81 (lv_at hl 0 rfl) ?_
  refine lv_iconst (v := 1) hx hb dX6_areTable_83 (by decide) ?_
  obtain ⟨k98, e_k98, hF⟩ := nm_ex hF
  have hk98 : ∀ (s_12 : Int32) (ls : Array Slot), lv_has ls 5 [] → k98 s_12 = some ro → W p l e rmX6_areTable s m ([.ref b2, .int p1, .int p2, .int p3] : List Value).toArray below meth c s.heap [] 0 0 Q (F0 m 98 ls [.int s_12]) := by
    intro s_12 ls hl hF
    have hF := ka1 e_k98 hF
    obtain ⟨hz, hF⟩ := ck_of hF
    have q0 := sm1 hF
    refine W_Qe hQ ?_
    exact W.zret (ty := .boolean) hx hb hr (nz_bool hz) (fun t ht hW => ⟨_, rfl, q0, ht⟩) (fun _ h9 => by cases h9) dX6_areTable_98
  clear e_k98
  obtain ⟨k93, e_k93, hF⟩ := nm_ex hF
  have hk93 : ∀  (ls : Array Slot), lv_has ls 5 [] → k93 = some ro → W p l e rmX6_areTable s m ([.ref b2, .int p1, .int p2, .int p3] : List Value).toArray below meth c s.heap [] 0 0 Q (F0 m 93 ls []) := by
    intro ls hl hF
    have hF := ka0 e_k93 hF
    refine lv_iconst (v := 1) hx hb dX6_areTable_93 (by decide) ?_
    refine lv_goto (tgt := 98) hx hb dX6_areTable_94 (by decide) ?_
    exact hk98 (1 : Int32) ls (lv_sub hl [] rfl) hF
  clear e_k93
  refine lv_icmp_eq (tgt := 93) hx hb dX6_areTable_84 (by decide) (fun c0 => ?_) (fun c0 => ?_)
  · have hF := if_t hF c0
    exact hk93 ls (lv_sub hl [] rfl) hF
  · have hF := if_f hF c0
    refine lv_iload hx hb dX6_areTable_87 (lv_at hl 0 rfl) ?_
    refine lv_iconst (v := (-1)) hx hb dX6_areTable_89 (by decide) ?_
    refine lv_icmp_ne (tgt := 97) hx hb dX6_areTable_90 (by decide) (fun c0 => ?_) (fun c0 => ?_)
    · have hF := if_f hF c0
      refine lv_iconst (v := 0) hx hb dX6_areTable_97 (by decide) ?_
      exact hk98 (0 : Int32) ls (lv_sub hl [] rfl) hF
    · have hF := if_t hF c0
      exact hk93 ls (lv_sub hl [] rfl) hF
