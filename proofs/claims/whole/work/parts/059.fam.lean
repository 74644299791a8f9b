/-! the constructors that make grids: Family, Form -/
theorem RA_grid {s : State} {c c2 : ClassId} (h : va_RA s c (.array .int)) (h2 : va_RA s c2 (.array .int)) : c2 = c := Option.some.inj (Eq.trans (Eq.symm (show s.vm.findClass ("[" ++ (FieldType.array .int).toString) = some c2 from h2)) (show s.vm.findClass ("[" ++ (FieldType.array .int).toString) = some c from h))
theorem gr_of_pl {c : ClassId} {K : Nat} {r : Nat → Nat} {f : Nat → va_E} {N : Nat} : va_pl ([] ++ (List.range N).map r) (vr_up f ((List.range N).map r) (.inl (c, K, .inl (fun _ => 0)))) = gr c K r (fun _ _ => 0) N := by
  unfold va_pl gr
  rw [List.nil_append, List.map_map]
  apply List.map_congr_left
  intro i hi
  show (r i, vr_up f _ _ (r i)) = _
  rw [vr_up_in (List.mem_map_of_mem hi)]
section FM
variable {p : Program} {l : Launch} {e : Env} {R : Room} {s : State} {m : MethodId} {args : Array Value} {below : List Frame} {meth : Method} {c : Code} {H : Heap} {locs : List Loc} {cells slots : Nat} {Q : State → Prop}
variable {pc : Nat} {ls : Array Slot} {rest : List Value} {A : Nat → Prop} {H0 : Heap} {D : va_G} {cl : List vw_C} {ws : va_W} {tys : List (ClassId × FieldType)} {cc : ByteArray}
theorem kn_mna (hexec : p.tables.exec = Jvm.exec) (hb : c.code = cc) {own : String} {index : Nat} (hown : s.vm.findClass own = some m.cls) (hclink : (Cond.classLink own index "[[I").before args s = true) (hover : (Cond.arrayOver (.array .int)).before args s = true) (harr : (Cond.arrayClass .int).before args s = true)
    (hK : va_K D cl tys s) (hP : va_P D cl ws H) (hD : va_D A ws) (hS : va_S A H0 H locs) (hA : ∀ q, H0.size ≤ q → A q) (t0 t1 : Nat) {cI cG : ClassId} (ht0 : tys[t0]? = some (cI, .int)) (ht1 : tys[t1]? = some (cG, .array .int)) {n k : Int32} {N' K' : Nat} (hn : ¬ n < 0) (hk : ¬ k < 0) (hN : n.toNatClampNeg = N') (hM : k.toNatClampNeg = K')
    (hb1 : N' * 4 ≤ 536870912) (hb2 : K' * 4 ≤ 536870912) (hb3 : K' ≤ 536870912) (hcells : cells + (1 + N') ≤ R.cells) (hslots : slots + (N' + N' * K') ≤ R.slots) (hdg : decode cc pc = .ok (.multianewarray index 2, 4))
    (kk : ∀ (q : Nat) (r : Nat → Nat) (H1 : Heap),
      va_P D cl ((ws ++ [(q, .inl (cG, N', .inr (.inr (.inr (.inr (fun i => if i < N' then some (r i) else none))))))]) ++ gr cI K' r (fun _ _ => 0) N') H1 → va_D A ((ws ++ [(q, .inl (cG, N', .inr (.inr (.inr (.inr (fun i => if i < N' then some (r i) else none))))))]) ++ gr cI K' r (fun _ _ => 0) N') → va_S A H0 H1 locs →
      W p l e R s m args below meth c H1 locs (cells + 1 + N') (slots + N' + N' * K') Q (F0 m (pc + 4) ls (.ref q :: rest))) : W p l e R s m args below meth c H locs cells slots Q (F0 m pc ls (.int k :: .int n :: rest)) := by
  have hP' : va_P D cl (ws ++ va_pl [] (fun _ => .inr (0, []))) H := by rw [show va_pl [] (fun _ => (.inr (0, []) : va_E)) = [] from rfl, List.append_nil]; exact hP
  have hD' : va_D A (ws ++ va_pl [] (fun _ => .inr (0, []))) := by rw [show va_pl [] (fun _ => (.inr (0, []) : va_E)) = [] from rfl, List.append_nil]; exact hD
  refine va_mna (ty := .int) (cy := cI) (z := (K', .inl (fun _ => 0))) hexec hb hown hclink hover harr (va_nm_int (hK.2 t0 _ ht0).2) hK hP' hD' hS hA hn hk hN hM hb1 hb2 hb3 rfl rfl hcells hslots (fun c9 => ?_) hdg (fun q r cA H1 _ _ hK1 hP1 hD1 hS1 => ?_)
  · rw [vp_cell_i]
    show ({ cls := c9, slots := Array.replicate K' (.int 0), vm := .none } : Cell) = _
    rw [arrV_new]
  · have e1 : cA = cG := RA_grid (hK.2 t1 _ ht1).2 (hK1.2 tys.length (cA, .array .int) (by rw [List.getElem?_append_right (Nat.le_refl _), Nat.sub_self]; rfl)).2
    subst e1
    rw [gr_of_pl] at hP1 hD1
    exact kk q r H1 hP1 hD1 hS1
end FM
/-- behind a constructor's call: pre and gs are as they were, the new object x has become w1 -/
theorem jn_new {A0 : Nat → Prop} {D : va_G} {cl : List vw_C} {pre gs w1 : va_W} {x : Nat × va_E} {H H1 : Heap} (hP : va_P D cl ((pre ++ [x]) ++ gs) H) (hD : va_D A0 ((pre ++ [x]) ++ gs)) (hk : ∀ q : Nat, q < H.size → ¬ va_A [x] H.size q → H1[q]? = H[q]?) (hF : ∀ q, va_A [x] H.size q → A0 q) (hP1 : va_P D cl w1 H1) (hD1 : va_D (va_A [x] H.size) w1) : va_P D cl ((pre ++ w1) ++ gs) H1 ∧ va_D A0 ((pre ++ w1) ++ gs) := by
  have hP2 := hP.swap
  have hD2 := hD.swap
  have hPl : va_P D cl (pre ++ gs) H := fun k q hq => hP2 k q (by rw [List.getElem?_append_left (List.getElem?_eq_some_iff.mp hq).1]; exact hq)
  have hDl : va_D A0 (pre ++ gs) := ⟨fun i j a b hi hj e => hD2.1 i j a b (by rw [List.getElem?_append_left (List.getElem?_eq_some_iff.mp hi).1]; exact hi) (by rw [List.getElem?_append_left (List.getElem?_eq_some_iff.mp hj).1]; exact hj) e, fun k q hq => hD2.2 k q (by rw [List.getElem?_append_left (List.getElem?_eq_some_iff.mp hq).1]; exact hq)⟩
  have apart : ∀ (k : Nat) (q : Nat × va_E), (pre ++ gs)[k]? = some q → q.1 < H.size ∧ ¬ va_A [x] H.size q.1 := by
    intro k q hq
    have hl := (List.getElem?_eq_some_iff.mp hq).1
    have hlt := (hPl k q hq).lt
    refine ⟨hlt, fun h => ?_⟩
    rcases h with ⟨k2, e, h⟩ | h
    · have h2 := (List.getElem?_eq_some_iff.mp h).1
      simp at h2
      subst h2
      have hx : ((pre ++ gs) ++ [x])[(pre ++ gs).length]? = some x := by rw [List.getElem?_append_right (Nat.le_refl _), Nat.sub_self]; rfl
      have h3 : x = (q.1, e) := by simpa using h
      have := hD2.1 k (pre ++ gs).length q x (by rw [List.getElem?_append_left hl]; exact hq) hx (by rw [h3])
      omega
    · omega
  have hP3 : va_P D cl ((pre ++ gs) ++ w1) H1 := va_P.app (fun k q hq => (hPl k q hq).kept (hk q.1 (apart k q hq).1 (apart k q hq).2)) hP1
  have hD3 : va_D A0 ((pre ++ gs) ++ w1) := va_D.app hDl (hD1.weaken (fun k q _ h => hF q.1 h)) (fun i j a b ha hb e => (apart i a ha).2 (by rw [e]; exact hD1.2 j b hb))
  exact ⟨hP3.swap, hD3.swap⟩
theorem AOA_moved {u U : State} (hvm : u.vm.Alike U.vm) (h : va_AOA .int u) : va_AOA .int U := by
  unfold va_AOA Cond.before Cond.holds at h ⊢
  simp only [Cond.value, beq_iff_eq, Option.bind_eq_some_iff, Option.map_eq_some_iff] at h ⊢
  obtain ⟨comp, h1, c, h2, k, h3, h4⟩ := h
  obtain ⟨k', hk', he⟩ := hvm.2.2 _ _ h3
  have hbare : U.vm.bare = u.vm.bare := by first | exact hvm.bare_eq | exact hvm.bare_eq.symm
  have hi0 := va_idx_bare U.vm comp
  have hi1 := va_idx_bare u.vm comp
  rw [hbare] at hi0
  have hi := (hi0.symm.trans hi1).trans h2
  refine ⟨comp, by rw [hvm.findClass]; exact h1, c, hi, k', hk', ?_⟩
  rw [he, hvm.findClass]
  exact h4
def AO (U : State) : Prop := va_AOA .int U ∧ va_AO "KinForms$Form" U
theorem AO.moved {u U : State} (hvm : u.vm.Alike U.vm) (h : AO u) : AO U := ⟨AOA_moved hvm h.1, va_AO.moved hvm h.2⟩
def mPa (D : va_G) (cl : List vw_C) (ws : va_W) (tys : List (ClassId × FieldType)) (sz : Nat) : State → Prop := fun U => U.heap.size = sz ∧ va_P D cl ws U.heap ∧ va_K D cl tys U ∧ va_D (fun _ => True) ws ∧ NW U ∧ AO U
theorem mPa_blind {av : List Value} {D : va_G} {cl : List vw_C} {ws : va_W} {tys : List (ClassId × FieldType)} {sz : Nat} : FrameBlind (va_Pc av (mPa D cl ws tys sz)) := fun a U g mk q => by
  obtain ⟨q0, q1, qP, qK, qD, qN, qO⟩ := q
  exact ⟨q0, q1, qP, va_K.moved (u := U) (U := U.calling g mk a) (Vm.Alike.refl U.vm) qK, qD, NW.same (u := U) (U := U.calling g mk a) rfl qN, AO.moved (u := U) (U := U.calling g mk a) (Vm.Alike.refl U.vm) qO⟩
theorem mPa_at {s : State} {H : Heap} {av : List Value} {D : va_G} {cl : List vw_C} {ws : va_W} {tys : List (ClassId × FieldType)} {A : Nat → Prop} (hK : va_K D cl tys s) (hP : va_P D cl ws H) (hD : va_D A ws) (hN : NW s) (hO : AO s) : ∀ U : State, U.heap = H → s.WarmedH U.vm → va_Pc av (mPa D cl ws tys H.size) av.toArray U :=
  fun U hU hW => ⟨rfl, by rw [hU], by rw [hU]; exact hP, va_K.moved hW.alike hK, hD.weaken (fun _ _ _ _ => trivial), hN.warm hW, hO.moved hW.alike⟩
