/-! what the class's walks need beside the base: the words on nest mates, calls on a part of the world, copies -/
def nwF : List (String × Nat × String × String × String × String) := [("KinForms", 130, "KinForms$Lines", "t", "I", "KinForms"), ("KinForms", 133, "KinForms$Lines", "u", "I", "KinForms"), ("KinForms", 139, "KinForms$Lines", "crossed", "[I", "KinForms"), ("KinForms", 146, "KinForms$Reducer", "best", "[I", "KinForms"), ("KinForms", 153, "KinForms$Form", "family", "LKinForms$Family;", "KinForms"), ("KinForms", 157, "KinForms$Family", "members", "[[I", "KinForms"), ("KinForms", 163, "KinForms$Family", "memberTurns", "[I", "KinForms"), ("KinForms", 170, "KinForms$Family", "paths", "[[I", "KinForms"), ("KinForms", 194, "KinForms$Family", "foundBy", "I", "KinForms"), ("KinForms", 201, "KinForms$Family", "size", "I", "KinForms"), ("KinForms", 204, "KinForms$Family", "many", "Z", "KinForms"), ("KinForms", 73, "KinForms$Form", "numbers", "[I", "KinForms"), ("KinForms", 76, "KinForms$Form", "disc", "I", "KinForms"), ("KinForms", 79, "KinForms$Form", "leastNumbers", "[I", "KinForms"), ("KinForms", 82, "KinForms$Form", "ownTurns", "I", "KinForms"), ("KinForms", 99, "KinForms$Form", "toLeast", "[I", "KinForms"), ("KinForms$Family", 34, "KinForms$Form", "leastNumbers", "[I", "KinForms"), ("KinForms$Family", 39, "KinForms$Form", "ownTurns", "I", "KinForms"), ("KinForms$Family", 59, "KinForms$Lines", "crossed", "[I", "KinForms"), ("KinForms$Family", 68, "KinForms$Reducer", "best", "[I", "KinForms"), ("KinForms$Family", 75, "KinForms$Reducer", "ties", "I", "KinForms"), ("KinForms$Form", 48, "KinForms$Reducer", "best", "[I", "KinForms"), ("KinForms$Form", 51, "KinForms$Reducer", "bestRows", "[I", "KinForms"), ("KinForms$Form", 54, "KinForms$Reducer", "ties", "I", "KinForms"), ("KinForms$Form", 60, "KinForms$Family", "foundBy", "I", "KinForms")]
def nwM : List (String × Nat × MethodName × String) := [("KinForms", 110, ⟨"KinForms$Six", "turn", "([I[I[I)V"⟩, "KinForms"), ("KinForms", 118, ⟨"KinForms$Lines", "find", "([II)V"⟩, "KinForms"), ("KinForms", 122, ⟨"KinForms$Lines", "choose", "(I)V"⟩, "KinForms"), ("KinForms", 126, ⟨"KinForms$Lines", "part", "(II)I"⟩, "KinForms"), ("KinForms", 136, ⟨"KinForms$Lines", "cross", "()V"⟩, "KinForms"), ("KinForms", 142, ⟨"KinForms$Reducer", "settle", "([I)V"⟩, "KinForms"), ("KinForms", 15, ⟨"KinForms$Form", "<init>", "()V"⟩, "KinForms"), ("KinForms", 166, ⟨"KinForms$Family", "placeOf", "([I)I"⟩, "KinForms"), ("KinForms", 177, ⟨"KinForms$Family", "partsOfAll", "()J"⟩, "KinForms"), ("KinForms", 18, ⟨"KinForms$Reducer", "<init>", "()V"⟩, "KinForms"), ("KinForms", 187, ⟨"KinForms$Family", "partsTaking", "(I)J"⟩, "KinForms"), ("KinForms", 197, ⟨"KinForms$Family", "begin", "(LKinForms$Form;I)V"⟩, "KinForms"), ("KinForms", 208, ⟨"KinForms$Family", "visit", "(ILKinForms$Lines;LKinForms$Reducer;)V"⟩, "KinForms"), ("KinForms", 25, ⟨"KinForms$Lines", "<init>", "()V"⟩, "KinForms"), ("KinForms", 51, ⟨"KinForms$Six", "isForm", "([I)Z"⟩, "KinForms"), ("KinForms", 59, ⟨"KinForms$Form", "become", "([ILKinForms$Reducer;)V"⟩, "KinForms"), ("KinForms", 85, ⟨"KinForms$Six", "at", "([IIII)I"⟩, "KinForms"), ("KinForms", 89, ⟨"KinForms$Taking", "timesOf", "([II)I"⟩, "KinForms"), ("KinForms", 95, ⟨"KinForms$Six", "areAlike", "([I[I)Z"⟩, "KinForms"), ("KinForms$Family", 46, ⟨"KinForms$Lines", "find", "([II)V"⟩, "KinForms"), ("KinForms$Family", 52, ⟨"KinForms$Lines", "choose", "(I)V"⟩, "KinForms"), ("KinForms$Family", 56, ⟨"KinForms$Lines", "cross", "()V"⟩, "KinForms"), ("KinForms$Family", 62, ⟨"KinForms$Reducer", "settle", "([I)V"⟩, "KinForms"), ("KinForms$Family", 84, ⟨"KinForms$Six", "areAlike", "([I[I)Z"⟩, "KinForms"), ("KinForms$Family", 94, ⟨"KinForms$Taking", "timesOf", "([II)I"⟩, "KinForms"), ("KinForms$Form", 21, ⟨"KinForms$Family", "<init>", "()V"⟩, "KinForms"), ("KinForms$Form", 32, ⟨"KinForms$Six", "discOf", "([I)I"⟩, "KinForms"), ("KinForms$Form", 42, ⟨"KinForms$Reducer", "settle", "([I)V"⟩, "KinForms"), ("KinForms$Lines", 42, ⟨"KinForms$Six", "at", "([IIII)I"⟩, "KinForms"), ("KinForms$Lines", 51, ⟨"KinForms$Six", "touchUnit", "([I[III)I"⟩, "KinForms"), ("KinForms$Lines", 58, ⟨"KinForms$Six", "atRow", "([I[II)I"⟩, "KinForms"), ("KinForms$Lines", 65, ⟨"KinForms$Six", "turn", "([I[I[I)V"⟩, "KinForms"), ("KinForms$Reducer", 61, ⟨"KinForms$Six", "atRow", "([I[II)I"⟩, "KinForms"), ("KinForms$Reducer", 77, ⟨"KinForms", "areTable", "([IIII)Z"⟩, "KinForms"), ("KinForms$Reducer", 86, ⟨"KinForms$Six", "touch", "([I[III)I"⟩, "KinForms"), ("KinForms$Six", 7, ⟨"KinForms", "isOutside", "(III)Z"⟩, "KinForms"), ("KinForms$Taking", 23, ⟨"KinForms$Six", "at", "([IIII)I"⟩, "KinForms"), ("KinForms$Taking", 7, ⟨"KinForms$Six", "discOf", "([I)I"⟩, "KinForms")]
def NW (U : State) : Prop := (∀ x ∈ nwF, va_Nw (.fieldLinkNest x.1 x.2.1 x.2.2.1 x.2.2.2.1 x.2.2.2.2.1 x.2.2.2.2.2) U) ∧ ∀ x ∈ nwM, va_Nw (.methodLinkNest x.1 x.2.1 x.2.2.1 x.2.2.2) U
theorem NW.warm {s U : State} (hW : s.WarmedH U.vm) (h : NW s) : NW U := ⟨fun x hx => va_Nw.warmF hW (h.1 x hx), fun x hx => va_Nw.warmM hW (h.2 x hx)⟩
theorem NW.same {u U : State} (e : u.vm = U.vm) (h : NW u) : NW U := ⟨fun x hx => va_Nw.same rfl e (h.1 x hx), fun x hx => va_Nw.same rfl e (h.2 x hx)⟩
def mPk (D : va_G) (cl : List vw_C) (ws : va_W) (tys : List (ClassId × FieldType)) (sz : Nat) : State → Prop := fun U => U.heap.size = sz ∧ va_P D cl ws U.heap ∧ va_K D cl tys U ∧ va_D (fun _ => True) ws ∧ NW U
def rPk (D : va_G) (cl : List vw_C) (ws : va_W) (tys : List (ClassId × FieldType)) : State → Prop := fun U => va_P D cl ws U.heap ∧ va_K D cl tys U ∧ NW U
theorem mPk_blind {av : List Value} {D : va_G} {cl : List vw_C} {ws : va_W} {tys : List (ClassId × FieldType)} {sz : Nat} : FrameBlind (va_Pc av (mPk D cl ws tys sz)) := fun a U g mk q => by
  obtain ⟨q0, q1, qP, qK, qD, qN⟩ := q
  exact ⟨q0, q1, qP, va_K.moved (u := U) (U := U.calling g mk a) (Vm.Alike.refl U.vm) qK, qD, NW.same (u := U) (U := U.calling g mk a) rfl qN⟩
theorem rPk_blind {av : List Value} {D : va_G} {cl : List vw_C} {ws : va_W} {tys : List (ClassId × FieldType)} : FrameBlind (va_Pc av (rPk D cl ws tys)) := fun a U g mk q => by
  obtain ⟨q0, qP, qK, qN⟩ := q
  exact ⟨q0, qP, va_K.moved (u := U) (U := U.calling g mk a) (Vm.Alike.refl U.vm) qK, NW.same (u := U) (U := U.calling g mk a) rfl qN⟩
theorem mPk_at {s : State} {H : Heap} {av : List Value} {D : va_G} {cl : List vw_C} {ws : va_W} {tys : List (ClassId × FieldType)} {A : Nat → Prop} (hK : va_K D cl tys s) (hP : va_P D cl ws H) (hD : va_D A ws) (hN : NW s) : ∀ U : State, U.heap = H → s.WarmedH U.vm → va_Pc av (mPk D cl ws tys H.size) av.toArray U :=
  fun U hU hW => ⟨rfl, by rw [hU], by rw [hU]; exact hP, va_K.moved hW.alike hK, hD.weaken (fun _ _ _ _ => trivial), hN.warm hW⟩
theorem rPk_at {s : State} {H : Heap} {av : List Value} {D : va_G} {cl : List vw_C} {ws : va_W} {tys : List (ClassId × FieldType)} (hK : va_K D cl tys s) (hP : va_P D cl ws H) (hN : NW s) : ∀ U : State, U.heap = H → s.WarmedH U.vm → va_Pc av (rPk D cl ws tys) av.toArray U :=
  fun U hU hW => ⟨rfl, by rw [hU]; exact hP, va_K.moved hW.alike hK, hN.warm hW⟩
/-- behind a call on a part of the world: wf is the world then -/
theorem jn_part {A0 : Nat → Prop} {D : va_G} {cl : List vw_C} {ws wc w1 wf : va_W} {H H1 : Heap} (hP : va_P D cl ws H) (hD : va_D A0 ws) (isC isR : List Nat) (hC : isC.map (fun i => ws[i]?) = wc.map some) (h1 : isC.map (fun i => wf[i]?) = w1.map some) (h2 : isR.map (fun i => wf[i]?) = isR.map (fun i => ws[i]?)) (ha : wf.map (·.1) = ws.map (·.1)) (hn : (List.range ws.length).all (fun i => isC.contains i || isR.contains i) = true) (hx : isR.all (fun i => !isC.contains i) = true)
    (hk : ∀ q : Nat, q < H.size → ¬ va_A wc H.size q → H1[q]? = H[q]?) (hP1 : va_P D cl w1 H1) : va_P D cl wf H1 ∧ va_D A0 wf := by
  have hlen : wf.length = ws.length := by
    have := congrArg List.length ha
    simpa using this
  have hadr : ∀ (k : Nat) (q : Nat × va_E), wf[k]? = some q → ∃ q0, ws[k]? = some q0 ∧ q0.1 = q.1 := by
    intro k q hq
    have h9 : (wf.map (·.1))[k]? = some q.1 := by rw [List.getElem?_map, hq]; rfl
    rw [ha, List.getElem?_map] at h9
    cases h8 : ws[k]? with
    | none => rw [h8] at h9; cases h9
    | some q0 => rw [h8] at h9; exact ⟨q0, rfl, Option.some.inj h9⟩
  refine ⟨fun k q hq => ?_, fun i j x y hi hj hxy => ?_, fun k q hq => ?_⟩
  · have hkl : k < ws.length := by rw [← hlen]; exact (List.getElem?_eq_some_iff.mp hq).1
    have hor := List.all_eq_true.mp hn k (List.mem_range.mpr hkl)
    by_cases hc : k ∈ isC
    · obtain ⟨j, hj⟩ := List.getElem?_of_mem hc
      have h9 : (isC.map (fun i => wf[i]?))[j]? = some (some q) := by rw [List.getElem?_map, hj]; show some (wf[k]?) = _; rw [hq]
      rw [h1, List.getElem?_map] at h9
      cases h8 : w1[j]? with
      | none => rw [h8] at h9; cases h9
      | some q1 =>
        rw [h8] at h9
        have e : q1 = q := by injection h9 with h9; injection h9
        rw [e] at h8
        exact hP1 j q h8
    · have hr : k ∈ isR := by
        simp only [Bool.or_eq_true, List.contains_iff_mem] at hor
        exact hor.resolve_left hc
      obtain ⟨j, hj⟩ := List.getElem?_of_mem hr
      have h9 : (isR.map (fun i => wf[i]?))[j]? = some (some q) := by rw [List.getElem?_map, hj]; show some (wf[k]?) = _; rw [hq]
      rw [h2, List.getElem?_map, hj] at h9
      have hws : ws[k]? = some q := by injection h9
      have hl := (hP k q hws).lt
      refine (hP k q hws).kept (hk q.1 hl (fun h => ?_))
      rcases h with ⟨k2, e, h⟩ | h
      · have h7 : (isC.map (fun i => ws[i]?))[k2]? = some (some (q.1, e)) := by rw [hC, List.getElem?_map, h]; rfl
        rw [List.getElem?_map] at h7
        cases h6 : isC[k2]? with
        | none => rw [h6] at h7; cases h7
        | some i =>
          rw [h6] at h7
          have h5 : ws[i]? = some (q.1, e) := by injection h7
          have := hD.1 k i q (q.1, e) hws h5 rfl
          subst this
          exact hc (List.mem_of_getElem? h6)
      · omega
  · obtain ⟨x0, g1, g2⟩ := hadr i x hi
    obtain ⟨y0, g3, g4⟩ := hadr j y hj
    exact hD.1 i j x0 y0 g1 g3 (g2.trans (hxy.trans g4.symm))
  · obtain ⟨q0, g1, g2⟩ := hadr k q hq
    rw [← g2]
    exact hD.2 k q0 g1
section CR
variable {p : Program} {l : Launch} {e : Env} {R : Room} {s : State} {m : MethodId} {args : Array Value} {below : List Frame} {meth : Method} {c : Code} {H : Heap} {locs : List Loc} {cells slots : Nat} {Q : State → Prop}
variable {pc : Nat} {ls : Array Slot} {rest st0 : List Value} {a : Array Value} {A0 : Nat → Prop} {H0 : Heap} {D : va_G} {cl : List vw_C} {w1 wc ws wf : va_W} {tys : List (ClassId × FieldType)}
theorem sc_i {r : Int32} (hr : va_Run p l e R s m args below meth c H locs cells slots 0 0 (F0 m pc ls st0) rest (va_Qi (fun x (_ : Unit) => x = r) (mPo D cl w1 tys (va_A wc H.size)) (va_A wc H.size) a) (va_A wc H.size)) (hP : va_P D cl ws H) (hD : va_D A0 ws) (hS : va_S A0 H0 H locs) (hA : ∀ q, H0.size ≤ q → A0 q) (isC isR : List Nat) (hC : isC.map (fun i => ws[i]?) = wc.map some) (h1 : isC.map (fun i => wf[i]?) = w1.map some) (h2 : isR.map (fun i => wf[i]?) = isR.map (fun i => ws[i]?)) (ha : wf.map (·.1) = ws.map (·.1)) (hn : (List.range ws.length).all (fun i => isC.contains i || isR.contains i) = true) (hx : isR.all (fun i => !isC.contains i) = true)
    (kk : ∀ (H1 : Heap) (locs1 : List Loc), va_P D cl wf H1 → va_D A0 wf → va_S A0 H0 H1 locs1 → W p l e R s m args below meth c H1 locs1 cells slots Q (F0 m (pc + 3) ls (.int r :: rest))) : W p l e R s m args below meth c H locs cells slots Q (F0 m pc ls st0) := by
  have hF := va_free (wc := wc) hD hS hA isC hC
  refine va_calli hr hS (fun q _ h => hF q h) hF (fun r1 u t H1 locs1 ht hvm hw hB hz1 hk1 hS1 => ?_)
  obtain ⟨hP1, hK1, hD1⟩ := hB
  rw [ht] at hP1
  subst hw
  obtain ⟨g1, g2⟩ := jn_part hP hD isC isR hC h1 h2 ha hn hx hk1 hP1
  exact kk H1 locs1 g1 g2 hS1
theorem sc_l {r : Int64} (hr : va_Run p l e R s m args below meth c H locs cells slots 0 0 (F0 m pc ls st0) rest (va_Ql (fun x (_ : Unit) => x = r) (mPo D cl w1 tys (va_A wc H.size)) (va_A wc H.size) a) (va_A wc H.size)) (hP : va_P D cl ws H) (hD : va_D A0 ws) (hS : va_S A0 H0 H locs) (hA : ∀ q, H0.size ≤ q → A0 q) (isC isR : List Nat) (hC : isC.map (fun i => ws[i]?) = wc.map some) (h1 : isC.map (fun i => wf[i]?) = w1.map some) (h2 : isR.map (fun i => wf[i]?) = isR.map (fun i => ws[i]?)) (ha : wf.map (·.1) = ws.map (·.1)) (hn : (List.range ws.length).all (fun i => isC.contains i || isR.contains i) = true) (hx : isR.all (fun i => !isC.contains i) = true)
    (kk : ∀ (H1 : Heap) (locs1 : List Loc), va_P D cl wf H1 → va_D A0 wf → va_S A0 H0 H1 locs1 → W p l e R s m args below meth c H1 locs1 cells slots Q (F0 m (pc + 3) ls (.long r :: rest))) : W p l e R s m args below meth c H locs cells slots Q (F0 m pc ls st0) := by
  have hF := va_free (wc := wc) hD hS hA isC hC
  refine va_calll hr hS (fun q _ h => hF q h) hF (fun r1 u t H1 locs1 ht hvm hw hB hz1 hk1 hS1 => ?_)
  obtain ⟨hP1, hK1, hD1⟩ := hB
  rw [ht] at hP1
  subst hw
  obtain ⟨g1, g2⟩ := jn_part hP hD isC isR hC h1 h2 ha hn hx hk1 hP1
  exact kk H1 locs1 g1 g2 hS1
theorem sc_v (hr : va_Run p l e R s m args below meth c H locs cells slots 0 0 (F0 m pc ls st0) rest (va_Qv (fun (_ : Unit) => True) (mPo D cl w1 tys (va_A wc H.size)) (va_A wc H.size) a) (va_A wc H.size)) (hP : va_P D cl ws H) (hD : va_D A0 ws) (hS : va_S A0 H0 H locs) (hA : ∀ q, H0.size ≤ q → A0 q) (isC isR : List Nat) (hC : isC.map (fun i => ws[i]?) = wc.map some) (h1 : isC.map (fun i => wf[i]?) = w1.map some) (h2 : isR.map (fun i => wf[i]?) = isR.map (fun i => ws[i]?)) (ha : wf.map (·.1) = ws.map (·.1)) (hn : (List.range ws.length).all (fun i => isC.contains i || isR.contains i) = true) (hx : isR.all (fun i => !isC.contains i) = true)
    (kk : ∀ (H1 : Heap) (locs1 : List Loc), va_P D cl wf H1 → va_D A0 wf → va_S A0 H0 H1 locs1 → W p l e R s m args below meth c H1 locs1 cells slots Q (F0 m (pc + 3) ls rest)) : W p l e R s m args below meth c H locs cells slots Q (F0 m pc ls st0) := by
  have hF := va_free (wc := wc) hD hS hA isC hC
  refine va_callv hr hS (fun q _ h => hF q h) hF (fun u t H1 locs1 ht hvm hw hB hz1 hk1 hS1 => ?_)
  obtain ⟨hP1, hK1, hD1⟩ := hB
  rw [ht] at hP1
  obtain ⟨g1, g2⟩ := jn_part hP hD isC isR hC h1 h2 ha hn hx hk1 hP1
  exact kk H1 locs1 g1 g2 hS1
variable {cc : ByteArray} {ad : Nat} {A : Nat → Prop}
theorem kc_aald (hexec : p.tables.exec = Jvm.exec) (hb : c.code = cc) (hK : va_K D cl tys s) (hP : va_P D cl ws H) (q0 t0 : Nat) {cA : ClassId} {C : String} {n y : Nat} {f : Nat → Option Nat} (ha : ws[q0]? = some (ad, .inl (cA, n, .inr (.inr (.inr (.inr f)))))) (ht : tys[t0]? = some (cA, .object C)) {i : Int32} (hv : f i.toNatClampNeg = some y) (hin : okI i n) (hdg : decode cc pc = .ok (.aaload, 1))
    (kk : W p l e R s m args below meth c H locs cells slots Q (F0 m (pc + 1) ls (.ref y :: rest))) : W p l e R s m args below meth c H locs cells slots Q (F0 m pc ls (.int i :: .ref ad :: rest)) := by
  refine va_aldq hexec hb hK hP q0 t0 ha ht hin hdg ?_
  rw [hv]
  exact kk
theorem kc_copy (hexec : p.tables.exec = Jvm.exec) (hb : c.code = cc) (hml : c.maxLocals = ls.size) {own : String} {index : Nat} (hown : s.vm.findClass own = some m.cls) (hlink : (Cond.methodLink own index arraycopyName).before args s = true) (hnat : (Cond.native arraycopyName).before args s = true) (hstat : (Cond.static arraycopyName).before args s = true) (hini : (Cond.initialized "java/lang/System").before args s = true)
    (hK : va_K D cl tys s) (hP : va_P D cl ws H) (hD : va_D A ws) (hS : va_S A H0 H locs) (q0 q1 t0 t1 : Nat) {a0 : Nat} {c0 c1 : ClassId} {n0 n1 : Nat} {f g : Nat → Int32} (ha0 : ws[q0]? = some (a0, .inl (c0, n0, .inl f))) (ha1 : ws[q1]? = some (ad, .inl (c1, n1, .inl g))) (ht0 : tys[t0]? = some (c0, .int)) (ht1 : tys[t1]? = some (c1, .int))
    {sp dp n : Int32} {N SP DP : Nat} (h1 : ¬ sp < 0) (h2 : ¬ dp < 0) (h3 : ¬ n < 0) (eN : n.toNatClampNeg = N) (eS : sp.toNatClampNeg = SP) (eD : dp.toNatClampNeg = DP) (h4 : SP + N ≤ n0) (h5 : DP + N ≤ n1)
    (hframes : 1 ≤ R.frames) (hlocals : (rest.map fun v => v.category).sum + 18 ≤ R.locals) (hdg : decode cc pc = .ok (.invokestatic index, 3)) {g1 : Nat → Int32} (hg : g1 = va_cpy f g SP DP N)
    (kk : ∀ (H1 : Heap) (locs1 : List Loc), va_P D cl (ws.set q1 (ad, .inl (c1, n1, .inl g1))) H1 → va_D A (ws.set q1 (ad, .inl (c1, n1, .inl g1))) → va_S A H0 H1 locs1 → W p l e R s m args below meth c H1 locs1 cells slots Q (F0 m (pc + 3) ls rest)) : W p l e R s m args below meth c H locs cells slots Q (F0 m pc ls (.int n :: .int dp :: .ref ad :: .int sp :: .ref a0 :: rest)) := by
  subst eN
  subst eS
  subst eD
  subst hg
  exact va_copyi hexec hb hml hown hlink hnat hstat hini hK hP hD hS q0 q1 t0 t1 ha0 ha1 ht0 ht1 rfl h1 h2 h3 h4 h5 (fun i _ => rfl) hframes (by show (rest.map fun v => v.category).sum + 18 ≤ R.locals; exact hlocals) hdg kk
end CR
