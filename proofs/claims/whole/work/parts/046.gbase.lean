/-! grids of rows behind the explicit cells of a world; calls on parts of such worlds -/
theorem ok_lt {i : Int32} {n : Nat} (h : okI i n) : i.toNatClampNeg < n := Nat.not_le.mp fun q => h (Or.inr q)
def gr (c : ClassId) (n : Nat) (b : Nat → Nat) (M : Nat → Nat → Int32) (k : Nat) : va_W := (List.range k).map (fun i => (b i, .inl (c, n, .inl (M i))))
theorem gr_len {c : ClassId} {n : Nat} {b : Nat → Nat} {M : Nat → Nat → Int32} {k : Nat} : (gr c n b M k).length = k := by simp [gr]
theorem gr_get {c : ClassId} {n : Nat} {b : Nat → Nat} {M : Nat → Nat → Int32} {k i : Nat} (hi : i < k) : (gr c n b M k)[i]? = some (b i, .inl (c, n, .inl (M i))) := by
  simp [gr, List.getElem?_map, List.getElem?_range hi]
theorem gr_setg {c : ClassId} {n : Nat} {b : Nat → Nat} {M : Nat → Nat → Int32} {k i : Nat} {g : Nat → Int32} (hi : i < k) : (gr c n b M k).set i (b i, .inl (c, n, .inl g)) = gr c n b (va_up M i g) k := by
  apply List.ext_getElem?
  intro j
  by_cases hj : j < k
  · rw [gr_get hj, List.getElem?_set, gr_len]
    by_cases e : i = j
    · subst e
      simp [hi, va_up]
    · rw [if_neg e, gr_get hj]
      simp [va_up, Ne.symm e]
  · rw [List.getElem?_eq_none (by rw [List.length_set, gr_len]; omega), List.getElem?_eq_none (by rw [gr_len]; omega)]
theorem gr_at0 {ex r : va_W} {c : ClassId} {n : Nat} {b : Nat → Nat} {M : Nat → Nat → Int32} {k i : Nat} (hi : i < k) : (ex ++ (gr c n b M k ++ r))[ex.length + i]? = some (b i, .inl (c, n, .inl (M i))) := by
  rw [List.getElem?_append_right (by omega), Nat.add_sub_cancel_left, List.getElem?_append_left (by rw [gr_len]; exact hi), gr_get hi]
theorem gr_at1 {ex : va_W} {c c2 : ClassId} {n n2 : Nat} {b b2 : Nat → Nat} {M M2 : Nat → Nat → Int32} {k k2 i : Nat} (hi : i < k2) : (ex ++ (gr c n b M k ++ gr c2 n2 b2 M2 k2))[(ex.length + k) + i]? = some (b2 i, .inl (c2, n2, .inl (M2 i))) := by
  rw [List.getElem?_append_right (by omega), show ex.length + k + i - ex.length = k + i by omega, List.getElem?_append_right (by rw [gr_len]; omega), gr_len, Nat.add_sub_cancel_left, gr_get hi]
theorem gr_set0 {ex r : va_W} {c : ClassId} {n : Nat} {b : Nat → Nat} {M : Nat → Nat → Int32} {k i : Nat} {g : Nat → Int32} (hi : i < k) : (ex ++ (gr c n b M k ++ r)).set (ex.length + i) (b i, .inl (c, n, .inl g)) = ex ++ (gr c n b (va_up M i g) k ++ r) := by
  rw [List.set_append_right _ _ (by omega), Nat.add_sub_cancel_left, List.set_append_left _ _ (by rw [gr_len]; exact hi), gr_setg hi]
theorem gr_set1 {ex : va_W} {c c2 : ClassId} {n n2 : Nat} {b b2 : Nat → Nat} {M M2 : Nat → Nat → Int32} {k k2 i : Nat} {g : Nat → Int32} (hi : i < k2) : (ex ++ (gr c n b M k ++ gr c2 n2 b2 M2 k2)).set ((ex.length + k) + i) (b2 i, .inl (c2, n2, .inl g)) = ex ++ (gr c n b M k ++ gr c2 n2 b2 (va_up M2 i g) k2) := by
  rw [List.set_append_right _ _ (by omega), show ex.length + k + i - ex.length = k + i by omega, List.set_append_right _ _ (by rw [gr_len]; omega), gr_len, Nat.add_sub_cancel_left, gr_setg hi]
theorem vp1 {D : va_G} {cl : List vw_C} {x : Nat × va_E} {H : Heap} (hx : va_at D cl x H) : va_P D cl [x] H := by
  intro k q hk
  match k, hk with
  | 0, hk => cases hk; exact hx
  | k + 1, hk => simp at hk
theorem vp2 {D : va_G} {cl : List vw_C} {x y : Nat × va_E} {H : Heap} (hx : va_at D cl x H) (hy : va_at D cl y H) : va_P D cl [x, y] H := by
  intro k q hk
  match k, hk with
  | 0, hk => cases hk; exact hx
  | 1, hk => cases hk; exact hy
  | k + 2, hk => simp at hk
theorem va_P.tail {D : va_G} {cl : List vw_C} {ws ws' ex gs : va_W} {H : Heap} (h : va_P D cl ws H) (is : List Nat) (hs : ws = ex ++ gs) (hs' : ws' = is.filterMap (fun i => ex[i]?) ++ gs) : va_P D cl ws' H := by
  subst hs
  subst hs'
  refine va_P.app (fun k q hk => ?_) (fun k q hk => ?_)
  · obtain ⟨i, -, hi⟩ := List.mem_filterMap.mp (List.mem_of_getElem? hk)
    exact h i q (by rw [List.getElem?_append_left (List.getElem?_eq_some_iff.mp hi).1]; exact hi)
  · exact h (ex.length + k) q (by rw [List.getElem?_append_right (by omega), Nat.add_sub_cancel_left]; exact hk)
theorem va_D.tail {A : Nat → Prop} {ws ws' ex ex' gs : va_W} (h : va_D A ws) (is : List Nat) (hs : ws = ex ++ gs) (hs' : ws' = ex' ++ gs) (hn : va_nd is = true) (hm : is.map (fun i => ex[i]?) = ex'.map some) : va_D A ws' := by
  subst hs
  subst hs'
  have key : ∀ (k : Nat) (q : Nat × va_E), (ex' ++ gs)[k]? = some q → ∃ i : Nat, (ex ++ gs)[i]? = some q ∧ ((k < ex'.length ∧ is[k]? = some i ∧ i < ex.length) ∨ (ex'.length ≤ k ∧ i = ex.length + (k - ex'.length))) := by
    intro k q hk
    by_cases hl : k < ex'.length
    · rw [List.getElem?_append_left hl] at hk
      have h1 : (is.map (fun i => ex[i]?))[k]? = some (some q) := by rw [hm, List.getElem?_map, hk]; rfl
      rw [List.getElem?_map] at h1
      cases hi : is[k]? with
      | none => rw [hi] at h1; cases h1
      | some i =>
        rw [hi] at h1
        have h2 : ex[i]? = some q := by injection h1
        have h3 := (List.getElem?_eq_some_iff.mp h2).1
        exact ⟨i, by rw [List.getElem?_append_left h3]; exact h2, Or.inl ⟨hl, rfl, h3⟩⟩
    · rw [List.getElem?_append_right (by omega)] at hk
      exact ⟨ex.length + (k - ex'.length), by rw [List.getElem?_append_right (by omega), Nat.add_sub_cancel_left]; exact hk, Or.inr ⟨by omega, rfl⟩⟩
  refine ⟨fun i j x y hi hj hxy => ?_, fun k q hk => ?_⟩
  · obtain ⟨a, h1, h2⟩ := key i x hi
    obtain ⟨b, h3, h4⟩ := key j y hj
    have hab := h.1 a b x y h1 h3 hxy
    subst hab
    rcases h2 with ⟨l1, g1, g2⟩ | ⟨l1, g1⟩ <;> rcases h4 with ⟨l2, g3, g4⟩ | ⟨l2, g3⟩
    · exact va_nd_inj is hn i j a g1 g3
    · omega
    · omega
    · omega
  · obtain ⟨a, h1, -⟩ := key k q hk
    exact h.2 a q h1
theorem vp_row {D : va_G} {cl : List vw_C} {ws ws' : va_W} {x : Nat × va_E} {k : Nat} {H : Heap} (h : va_P D cl ws H) (is : List Nat) (hs : ws' = is.filterMap (fun i => ws[i]?) ++ [x]) (hx : ws[k]? = some x) : va_P D cl ws' H := by
  subst hs
  exact va_P.app (h.sub is rfl) (vp1 (h k x hx))
theorem vd_row {A : Nat → Prop} {ws ws' ex' : va_W} {x : Nat × va_E} {K0 j : Nat} (h : va_D A ws) (is : List Nat) (hs : ws' = ex' ++ [x]) (hx : ws[K0 + j]? = some x) (hn : va_nd is = true) (hlt : is.all (fun i => decide (i < K0)) = true) (hm : is.map (fun i => ws[i]?) = ex'.map some) : va_D A ws' := by
  subst hs
  refine va_D.app (h.sub is hn hm) ⟨fun a b p q hp hq _ => ?_, fun k q hk => ?_⟩ (fun a b p q hp hq e => ?_)
  · have h1 := (List.getElem?_eq_some_iff.mp hp).1
    have h2 := (List.getElem?_eq_some_iff.mp hq).1
    simp at h1 h2
    omega
  · have h1 := (List.getElem?_eq_some_iff.mp hk).1
    simp at h1
    subst h1
    cases hk
    exact h.2 _ _ hx
  · have h1 := (List.getElem?_eq_some_iff.mp hq).1
    simp at h1
    subst h1
    cases hq
    have h2 : (is.map (fun i => ws[i]?))[a]? = some (some p) := by rw [hm, List.getElem?_map, hp]; rfl
    rw [List.getElem?_map] at h2
    cases hi : is[a]? with
    | none => rw [hi] at h2; cases h2
    | some i =>
      rw [hi] at h2
      have h3 : ws[i]? = some p := by injection h2
      have h4 := h.1 i (K0 + j) p x h3 hx e
      have h5 := List.all_eq_true.mp hlt i (List.mem_of_getElem? hi)
      have h6 := of_decide_eq_true h5
      omega
/-- behind a call on the cells of wc, which stand at the places C of ws -/
theorem jn_core {A0 : Nat → Prop} {D : va_G} {cl : List vw_C} {ws wc w1 wf : va_W} {H H1 : Heap} (C : Nat → Prop) (hP : va_P D cl ws H) (hD : va_D A0 ws) (hC : ∀ (j : Nat) (x : Nat × va_E), wc[j]? = some x → ∃ k : Nat, C k ∧ ws[k]? = some x) (h1 : ∀ (k : Nat) (x : Nat × va_E), C k → wf[k]? = some x → ∃ j : Nat, w1[j]? = some x) (h2 : ∀ k, ¬ C k → wf[k]? = ws[k]?) (ha : wf.map (·.1) = ws.map (·.1))
    (hk : ∀ q : Nat, q < H.size → ¬ va_A wc H.size q → H1[q]? = H[q]?) (hP1 : va_P D cl w1 H1) : va_P D cl wf H1 ∧ va_D A0 wf := by
  have hadr : ∀ (k : Nat) (q : Nat × va_E), wf[k]? = some q → ∃ q0, ws[k]? = some q0 ∧ q0.1 = q.1 := by
    intro k q hq
    have h9 : (wf.map (·.1))[k]? = some q.1 := by rw [List.getElem?_map, hq]; rfl
    rw [ha, List.getElem?_map] at h9
    cases h8 : ws[k]? with
    | none => rw [h8] at h9; cases h9
    | some q0 => rw [h8] at h9; exact ⟨q0, rfl, Option.some.inj h9⟩
  refine ⟨fun k q hq => ?_, fun i j x y hi hj hxy => ?_, fun k q hq => ?_⟩
  · by_cases hc : C k
    · obtain ⟨j, hj⟩ := h1 k q hc hq
      exact hP1 j q hj
    · have hws : ws[k]? = some q := by rw [← h2 k hc]; exact hq
      have hl := (hP k q hws).lt
      refine (hP k q hws).kept (hk q.1 hl (fun h => ?_))
      rcases h with ⟨k2, e, h⟩ | h
      · obtain ⟨i, g1, g2⟩ := hC k2 _ h
        have := hD.1 k i q (q.1, e) hws g2 rfl
        subst this
        exact hc g1
      · omega
  · obtain ⟨x0, g1, g2⟩ := hadr i x hi
    obtain ⟨y0, g3, g4⟩ := hadr j y hj
    exact hD.1 i j x0 y0 g1 g3 (g2.trans (hxy.trans g4.symm))
  · obtain ⟨q0, g1, g2⟩ := hadr k q hq
    rw [← g2]
    exact hD.2 k q0 g1
theorem fr_core {A0 : Nat → Prop} {ws wc : va_W} {H0 H : Heap} {locs : List Loc} (hD : va_D A0 ws) (hS : va_S A0 H0 H locs) (hA : ∀ q, H0.size ≤ q → A0 q) (hC : ∀ (j : Nat) (x : Nat × va_E), wc[j]? = some x → ∃ k : Nat, ws[k]? = some x) : ∀ q, va_A wc H.size q → A0 q := by
  intro q h
  rcases h with ⟨k, e, h⟩ | h
  · obtain ⟨i, hi⟩ := hC k _ h
    exact hD.2 i (q, e) hi
  · exact hA q (Nat.le_trans hS.1 h)
theorem ls_map {α : Type} {is : List Nat} {a : Nat → Option α} {w : List α} (h : is.map a = w.map some) {j : Nat} {x : α} (hj : w[j]? = some x) : ∃ i : Nat, is[j]? = some i ∧ a i = some x := by
  have h1 : (is.map a)[j]? = some (some x) := by rw [h, List.getElem?_map, hj]; rfl
  rw [List.getElem?_map] at h1
  cases hi : is[j]? with
  | none => rw [hi] at h1; cases h1
  | some i => rw [hi] at h1; exact ⟨i, rfl, by injection h1⟩
theorem ls_map2 {α : Type} {is : List Nat} {a : Nat → Option α} {w : List α} (h : is.map a = w.map some) {i : Nat} {x : α} (hi : i ∈ is) (hx : a i = some x) : ∃ j : Nat, w[j]? = some x := by
  obtain ⟨j, hj⟩ := List.getElem?_of_mem hi
  have h1 : (is.map a)[j]? = some (some x) := by rw [List.getElem?_map, hj]; show some (a i) = _; rw [hx]
  rw [h, List.getElem?_map] at h1
  cases hw : w[j]? with
  | none => rw [hw] at h1; cases h1
  | some y => rw [hw] at h1; exact ⟨j, by rw [hw]; injection h1⟩
theorem ls_map3 {α : Type} {is : List Nat} {a b : Nat → Option α} (h : is.map a = is.map b) {i : Nat} (hi : i ∈ is) : a i = b i := by
  obtain ⟨j, hj⟩ := List.getElem?_of_mem hi
  have h1 : (is.map a)[j]? = some (a i) := by rw [List.getElem?_map, hj]; rfl
  rw [h, List.getElem?_map, hj] at h1
  injection h1 with h1
  exact h1.symm
/-- V1: the callee's cells are explicit ones -/
theorem jn_E {A0 : Nat → Prop} {D : va_G} {cl : List vw_C} {ws wc w1 wf ex exf gs : va_W} {H H1 : Heap} (hP : va_P D cl ws H) (hD : va_D A0 ws) (isC isR : List Nat) (hs : ws = ex ++ gs) (hf : wf = exf ++ gs) (hC : isC.map (fun i => ex[i]?) = wc.map some) (h1 : isC.map (fun i => exf[i]?) = w1.map some) (h2 : isR.map (fun i => exf[i]?) = isR.map (fun i => ex[i]?)) (ha : exf.map (·.1) = ex.map (·.1)) (hn : (List.range ex.length).all (fun i => isC.contains i || isR.contains i) = true) (hx : isC.all (fun i => decide (i < ex.length)) = true)
    (hk : ∀ q : Nat, q < H.size → ¬ va_A wc H.size q → H1[q]? = H[q]?) (hP1 : va_P D cl w1 H1) : (va_P D cl wf H1 ∧ va_D A0 wf) ∧ ∀ (j : Nat) (x : Nat × va_E), wc[j]? = some x → ∃ k : Nat, ws[k]? = some x := by
  subst hs
  subst hf
  have hlen : exf.length = ex.length := by
    have := congrArg List.length ha
    simpa using this
  have hcc : ∀ (j : Nat) (x : Nat × va_E), wc[j]? = some x → ∃ k : Nat, k ∈ isC ∧ (ex ++ gs)[k]? = some x := by
    intro j x hj
    obtain ⟨i, g1, g2⟩ := ls_map hC hj
    exact ⟨i, List.mem_of_getElem? g1, by rw [List.getElem?_append_left (List.getElem?_eq_some_iff.mp g2).1]; exact g2⟩
  refine ⟨jn_core (fun k => k ∈ isC) hP hD hcc (fun k x hc hq => ?_) (fun k hc => ?_) ?_ hk hP1, fun j x hj => ?_⟩
  · have hl := of_decide_eq_true (List.all_eq_true.mp hx k hc)
    rw [List.getElem?_append_left (by omega)] at hq
    exact ls_map2 h1 hc hq
  · by_cases hl : k < ex.length
    · rw [List.getElem?_append_left (by omega), List.getElem?_append_left hl]
      have hor := List.all_eq_true.mp hn k (List.mem_range.mpr hl)
      simp only [Bool.or_eq_true, List.contains_iff_mem] at hor
      exact ls_map3 h2 (hor.resolve_left hc)
    · rw [List.getElem?_append_right (by omega), List.getElem?_append_right (by omega), hlen]
  · rw [List.map_append, List.map_append, ha]
  · obtain ⟨k, -, h⟩ := hcc j x hj
    exact ⟨k, h⟩
/-- V2: explicit cells, and one row that the callee only reads -/
theorem jn_R {A0 : Nat → Prop} {D : va_G} {cl : List vw_C} {ws wcc wc w11 w1 wf ex exf gs : va_W} {x0 : Nat × va_E} {K0 : Nat} {H H1 : Heap} (hP : va_P D cl ws H) (hD : va_D A0 ws) (isC isR : List Nat) (hs : ws = ex ++ gs) (hf : wf = exf ++ gs) (hwc : wcc = wc ++ [x0]) (hw1 : w11 = w1 ++ [x0]) (hC : isC.map (fun i => ex[i]?) = wc.map some) (h1 : isC.map (fun i => exf[i]?) = w1.map some) (h2 : isR.map (fun i => exf[i]?) = isR.map (fun i => ex[i]?)) (ha : exf.map (·.1) = ex.map (·.1)) (hn : (List.range ex.length).all (fun i => isC.contains i || isR.contains i) = true) (hx : isC.all (fun i => decide (i < ex.length)) = true) (hrow : ws[K0]? = some x0)
    (hk : ∀ q : Nat, q < H.size → ¬ va_A wcc H.size q → H1[q]? = H[q]?) (hP1 : va_P D cl w11 H1) : (va_P D cl wf H1 ∧ va_D A0 wf) ∧ ∀ (j : Nat) (x : Nat × va_E), wcc[j]? = some x → ∃ k : Nat, ws[k]? = some x := by
  subst hs
  subst hf
  subst hwc
  subst hw1
  have hlen : exf.length = ex.length := by
    have := congrArg List.length ha
    simpa using this
  have hw : ∀ (k : Nat) (x : Nat × va_E), k ∈ isC → (exf ++ gs)[k]? = some x → ∃ j : Nat, (w1 ++ [x0])[j]? = some x := by
    intro k x hc hq
    have hl := of_decide_eq_true (List.all_eq_true.mp hx k hc)
    rw [List.getElem?_append_left (by omega)] at hq
    obtain ⟨j, hj⟩ := ls_map2 h1 hc hq
    exact ⟨j, by rw [List.getElem?_append_left (List.getElem?_eq_some_iff.mp hj).1]; exact hj⟩
  have hr : ∀ k, k ∉ isC → (exf ++ gs)[k]? = (ex ++ gs)[k]? := by
    intro k hc
    by_cases hl : k < ex.length
    · rw [List.getElem?_append_left (by omega), List.getElem?_append_left hl]
      have hor := List.all_eq_true.mp hn k (List.mem_range.mpr hl)
      simp only [Bool.or_eq_true, List.contains_iff_mem] at hor
      exact ls_map3 h2 (hor.resolve_left hc)
    · rw [List.getElem?_append_right (by omega), List.getElem?_append_right (by omega), hlen]
  have hcc : ∀ (j : Nat) (x : Nat × va_E), (wc ++ [x0])[j]? = some x → ∃ k : Nat, (k ∈ isC ∨ k = K0) ∧ (ex ++ gs)[k]? = some x := by
    intro j x hj
    rcases List.mem_append.mp (List.mem_of_getElem? hj) with h | h
    · obtain ⟨i, hi⟩ := List.getElem?_of_mem h
      obtain ⟨i2, g1, g2⟩ := ls_map hC hi
      exact ⟨i2, Or.inl (List.mem_of_getElem? g1), by rw [List.getElem?_append_left (List.getElem?_eq_some_iff.mp g2).1]; exact g2⟩
    · have e := List.mem_singleton.mp h
      subst e
      exact ⟨K0, Or.inr rfl, hrow⟩
  refine ⟨jn_core (fun k => k ∈ isC ∨ k = K0) hP hD hcc (fun k x hc hq => ?_) (fun k hc => hr k (fun h => hc (Or.inl h))) ?_ hk hP1, fun j x hj => ?_⟩
  · by_cases hm : k ∈ isC
    · exact hw k x hm hq
    · rw [hr k hm, hc.resolve_left hm, hrow] at hq
      injection hq with hq
      subst hq
      exact ⟨w1.length, by rw [List.getElem?_append_right (Nat.le_refl _), Nat.sub_self]; rfl⟩
  · rw [List.map_append, List.map_append, ha]
  · obtain ⟨k, -, h⟩ := hcc j x hj
    exact ⟨k, h⟩
/-- V3: explicit cells, and the whole of the grids -/
theorem jn_T {A0 : Nat → Prop} {D : va_G} {cl : List vw_C} {ws wcc wc w11 w1 wf ex exf gs gs1 : va_W} {H H1 : Heap} (hP : va_P D cl ws H) (hD : va_D A0 ws) (isC isR : List Nat) (hs : ws = ex ++ gs) (hf : wf = exf ++ gs1) (hwc : wcc = wc ++ gs) (hw1 : w11 = w1 ++ gs1) (hC : isC.map (fun i => ex[i]?) = wc.map some) (h1 : isC.map (fun i => exf[i]?) = w1.map some) (h2 : isR.map (fun i => exf[i]?) = isR.map (fun i => ex[i]?)) (ha : exf.map (·.1) = ex.map (·.1)) (hga : gs1.map (·.1) = gs.map (·.1)) (hn : (List.range ex.length).all (fun i => isC.contains i || isR.contains i) = true) (hx : isC.all (fun i => decide (i < ex.length)) = true)
    (hk : ∀ q : Nat, q < H.size → ¬ va_A wcc H.size q → H1[q]? = H[q]?) (hP1 : va_P D cl w11 H1) : (va_P D cl wf H1 ∧ va_D A0 wf) ∧ ∀ (j : Nat) (x : Nat × va_E), wcc[j]? = some x → ∃ k : Nat, ws[k]? = some x := by
  subst hs
  subst hf
  subst hwc
  subst hw1
  have hlen : exf.length = ex.length := by
    have := congrArg List.length ha
    simpa using this
  have hcc : ∀ (j : Nat) (x : Nat × va_E), (wc ++ gs)[j]? = some x → ∃ k : Nat, (k ∈ isC ∨ ex.length ≤ k) ∧ (ex ++ gs)[k]? = some x := by
    intro j x hj
    rcases List.mem_append.mp (List.mem_of_getElem? hj) with h | h
    · obtain ⟨i, hi⟩ := List.getElem?_of_mem h
      obtain ⟨i2, g1, g2⟩ := ls_map hC hi
      exact ⟨i2, Or.inl (List.mem_of_getElem? g1), by rw [List.getElem?_append_left (List.getElem?_eq_some_iff.mp g2).1]; exact g2⟩
    · obtain ⟨i, hi⟩ := List.getElem?_of_mem h
      exact ⟨ex.length + i, Or.inr (Nat.le_add_right _ _), by rw [List.getElem?_append_right (by omega), Nat.add_sub_cancel_left]; exact hi⟩
  refine ⟨jn_core (fun k => k ∈ isC ∨ ex.length ≤ k) hP hD hcc (fun k x hc hq => ?_) (fun k hc => ?_) ?_ hk hP1, fun j x hj => ?_⟩
  · by_cases hl : k < ex.length
    · have hm : k ∈ isC := hc.resolve_right (by omega)
      rw [List.getElem?_append_left (by omega)] at hq
      obtain ⟨j, hj⟩ := ls_map2 h1 hm hq
      exact ⟨j, by rw [List.getElem?_append_left (List.getElem?_eq_some_iff.mp hj).1]; exact hj⟩
    · rw [List.getElem?_append_right (by omega)] at hq
      exact ⟨w1.length + (k - exf.length), by rw [List.getElem?_append_right (by omega), Nat.add_sub_cancel_left]; exact hq⟩
  · have hl : k < ex.length := Nat.not_le.mp (fun h => hc (Or.inr h))
    have hm : k ∉ isC := fun h => hc (Or.inl h)
    rw [List.getElem?_append_left (by omega), List.getElem?_append_left hl]
    have hor := List.all_eq_true.mp hn k (List.mem_range.mpr hl)
    simp only [Bool.or_eq_true, List.contains_iff_mem] at hor
    exact ls_map3 h2 (hor.resolve_left hm)
  · rw [List.map_append, List.map_append, ha, hga]
  · obtain ⟨k, -, h⟩ := hcc j x hj
    exact ⟨k, h⟩
theorem gr_adr {c : ClassId} {n : Nat} {b : Nat → Nat} {M M' : Nat → Nat → Int32} {k : Nat} : (gr c n b M k).map (·.1) = (gr c n b M' k).map (·.1) := by simp [gr]
section GR
variable {p : Program} {l : Launch} {e : Env} {R : Room} {s : State} {m : MethodId} {args : Array Value} {below : List Frame} {meth : Method} {c : Code} {H : Heap} {locs : List Loc} {cells slots : Nat} {Q : State → Prop}
variable {pc : Nat} {ls : Array Slot} {rest st0 : List Value} {a : Array Value} {A0 : Nat → Prop} {H0 : Heap} {D : va_G} {cl : List vw_C} {w1 w11 wc wcc ws wf ex exf gs gs1 : va_W} {x0 : Nat × va_E} {K0 : Nat} {tys : List (ClassId × FieldType)}
theorem stE_i {r : Int32} (hr : va_Run p l e R s m args below meth c H locs cells slots 0 0 (F0 m pc ls st0) rest (va_Qi (fun x (_ : Unit) => x = r) (mPo D cl w1 tys (va_A wc H.size)) (va_A wc H.size) a) (va_A wc H.size)) (hP : va_P D cl ws H) (hD : va_D A0 ws) (hS : va_S A0 H0 H locs) (hA : ∀ q, H0.size ≤ q → A0 q) (isC isR : List Nat) (hs : ws = ex ++ gs) (hf : wf = exf ++ gs) (hC : isC.map (fun i => ex[i]?) = wc.map some) (h1 : isC.map (fun i => exf[i]?) = w1.map some) (h2 : isR.map (fun i => exf[i]?) = isR.map (fun i => ex[i]?)) (ha : exf.map (·.1) = ex.map (·.1)) (hn : (List.range ex.length).all (fun i => isC.contains i || isR.contains i) = true) (hx : isC.all (fun i => decide (i < ex.length)) = true)
    (kk : ∀ (H1 : Heap) (locs1 : List Loc), va_P D cl wf H1 → va_D A0 wf → va_S A0 H0 H1 locs1 → W p l e R s m args below meth c H1 locs1 cells slots Q (F0 m (pc + 3) ls (.int r :: rest))) : W p l e R s m args below meth c H locs cells slots Q (F0 m pc ls st0) := by
  have hF := fr_core (wc := wc) hD hS hA (fun j x hj => by obtain ⟨i, g1, g2⟩ := ls_map hC hj; exact ⟨i, by rw [hs, List.getElem?_append_left (List.getElem?_eq_some_iff.mp g2).1]; exact g2⟩)
  refine va_calli hr hS (fun q _ h => hF q h) hF (fun r1 u t H1 locs1 ht hvm hw hB hz1 hk1 hS1 => ?_)
  obtain ⟨hP1, hK1, hD1⟩ := hB
  rw [ht] at hP1
  subst hw
  obtain ⟨⟨g1, g2⟩, -⟩ := jn_E hP hD isC isR hs hf hC h1 h2 ha hn hx hk1 hP1
  exact kk H1 locs1 g1 g2 hS1
theorem stE_v (hr : va_Run p l e R s m args below meth c H locs cells slots 0 0 (F0 m pc ls st0) rest (va_Qv (fun (_ : Unit) => True) (mPo D cl w1 tys (va_A wc H.size)) (va_A wc H.size) a) (va_A wc H.size)) (hP : va_P D cl ws H) (hD : va_D A0 ws) (hS : va_S A0 H0 H locs) (hA : ∀ q, H0.size ≤ q → A0 q) (isC isR : List Nat) (hs : ws = ex ++ gs) (hf : wf = exf ++ gs) (hC : isC.map (fun i => ex[i]?) = wc.map some) (h1 : isC.map (fun i => exf[i]?) = w1.map some) (h2 : isR.map (fun i => exf[i]?) = isR.map (fun i => ex[i]?)) (ha : exf.map (·.1) = ex.map (·.1)) (hn : (List.range ex.length).all (fun i => isC.contains i || isR.contains i) = true) (hx : isC.all (fun i => decide (i < ex.length)) = true)
    (kk : ∀ (H1 : Heap) (locs1 : List Loc), va_P D cl wf H1 → va_D A0 wf → va_S A0 H0 H1 locs1 → W p l e R s m args below meth c H1 locs1 cells slots Q (F0 m (pc + 3) ls rest)) : W p l e R s m args below meth c H locs cells slots Q (F0 m pc ls st0) := by
  have hF := fr_core (wc := wc) hD hS hA (fun j x hj => by obtain ⟨i, g1, g2⟩ := ls_map hC hj; exact ⟨i, by rw [hs, List.getElem?_append_left (List.getElem?_eq_some_iff.mp g2).1]; exact g2⟩)
  refine va_callv hr hS (fun q _ h => hF q h) hF (fun u t H1 locs1 ht hvm hw hB hz1 hk1 hS1 => ?_)
  obtain ⟨hP1, hK1, hD1⟩ := hB
  rw [ht] at hP1
  obtain ⟨⟨g1, g2⟩, -⟩ := jn_E hP hD isC isR hs hf hC h1 h2 ha hn hx hk1 hP1
  exact kk H1 locs1 g1 g2 hS1
theorem stR_i {r : Int32} (hr : va_Run p l e R s m args below meth c H locs cells slots 0 0 (F0 m pc ls st0) rest (va_Qi (fun x (_ : Unit) => x = r) (mPo D cl w11 tys (va_A wcc H.size)) (va_A wcc H.size) a) (va_A wcc H.size)) (hP : va_P D cl ws H) (hD : va_D A0 ws) (hS : va_S A0 H0 H locs) (hA : ∀ q, H0.size ≤ q → A0 q) (isC isR : List Nat) (hs : ws = ex ++ gs) (hf : wf = exf ++ gs) (hwc : wcc = wc ++ [x0]) (hw1 : w11 = w1 ++ [x0]) (hC : isC.map (fun i => ex[i]?) = wc.map some) (h1 : isC.map (fun i => exf[i]?) = w1.map some) (h2 : isR.map (fun i => exf[i]?) = isR.map (fun i => ex[i]?)) (ha : exf.map (·.1) = ex.map (·.1)) (hn : (List.range ex.length).all (fun i => isC.contains i || isR.contains i) = true) (hx : isC.all (fun i => decide (i < ex.length)) = true) (hrow : ws[K0]? = some x0)
    (kk : ∀ (H1 : Heap) (locs1 : List Loc), va_P D cl wf H1 → va_D A0 wf → va_S A0 H0 H1 locs1 → W p l e R s m args below meth c H1 locs1 cells slots Q (F0 m (pc + 3) ls (.int r :: rest))) : W p l e R s m args below meth c H locs cells slots Q (F0 m pc ls st0) := by
  have hF := fr_core (wc := wcc) hD hS hA (fun j x hj => by
    rw [hwc] at hj
    rcases List.mem_append.mp (List.mem_of_getElem? hj) with h | h
    · obtain ⟨i, hi⟩ := List.getElem?_of_mem h
      obtain ⟨i2, g1, g2⟩ := ls_map hC hi
      exact ⟨i2, by rw [hs, List.getElem?_append_left (List.getElem?_eq_some_iff.mp g2).1]; exact g2⟩
    · rw [List.mem_singleton.mp h]
      exact ⟨K0, hrow⟩)
  refine va_calli hr hS (fun q _ h => hF q h) hF (fun r1 u t H1 locs1 ht hvm hw hB hz1 hk1 hS1 => ?_)
  obtain ⟨hP1, hK1, hD1⟩ := hB
  rw [ht] at hP1
  subst hw
  obtain ⟨⟨g1, g2⟩, -⟩ := jn_R hP hD isC isR hs hf hwc hw1 hC h1 h2 ha hn hx hrow hk1 hP1
  exact kk H1 locs1 g1 g2 hS1
theorem stR_v (hr : va_Run p l e R s m args below meth c H locs cells slots 0 0 (F0 m pc ls st0) rest (va_Qv (fun (_ : Unit) => True) (mPo D cl w11 tys (va_A wcc H.size)) (va_A wcc H.size) a) (va_A wcc H.size)) (hP : va_P D cl ws H) (hD : va_D A0 ws) (hS : va_S A0 H0 H locs) (hA : ∀ q, H0.size ≤ q → A0 q) (isC isR : List Nat) (hs : ws = ex ++ gs) (hf : wf = exf ++ gs) (hwc : wcc = wc ++ [x0]) (hw1 : w11 = w1 ++ [x0]) (hC : isC.map (fun i => ex[i]?) = wc.map some) (h1 : isC.map (fun i => exf[i]?) = w1.map some) (h2 : isR.map (fun i => exf[i]?) = isR.map (fun i => ex[i]?)) (ha : exf.map (·.1) = ex.map (·.1)) (hn : (List.range ex.length).all (fun i => isC.contains i || isR.contains i) = true) (hx : isC.all (fun i => decide (i < ex.length)) = true) (hrow : ws[K0]? = some x0)
    (kk : ∀ (H1 : Heap) (locs1 : List Loc), va_P D cl wf H1 → va_D A0 wf → va_S A0 H0 H1 locs1 → W p l e R s m args below meth c H1 locs1 cells slots Q (F0 m (pc + 3) ls rest)) : W p l e R s m args below meth c H locs cells slots Q (F0 m pc ls st0) := by
  have hF := fr_core (wc := wcc) hD hS hA (fun j x hj => by
    rw [hwc] at hj
    rcases List.mem_append.mp (List.mem_of_getElem? hj) with h | h
    · obtain ⟨i, hi⟩ := List.getElem?_of_mem h
      obtain ⟨i2, g1, g2⟩ := ls_map hC hi
      exact ⟨i2, by rw [hs, List.getElem?_append_left (List.getElem?_eq_some_iff.mp g2).1]; exact g2⟩
    · rw [List.mem_singleton.mp h]
      exact ⟨K0, hrow⟩)
  refine va_callv hr hS (fun q _ h => hF q h) hF (fun u t H1 locs1 ht hvm hw hB hz1 hk1 hS1 => ?_)
  obtain ⟨hP1, hK1, hD1⟩ := hB
  rw [ht] at hP1
  obtain ⟨⟨g1, g2⟩, -⟩ := jn_R hP hD isC isR hs hf hwc hw1 hC h1 h2 ha hn hx hrow hk1 hP1
  exact kk H1 locs1 g1 g2 hS1
theorem stT_i {r : Int32} (hr : va_Run p l e R s m args below meth c H locs cells slots 0 0 (F0 m pc ls st0) rest (va_Qi (fun x (_ : Unit) => x = r) (mPo D cl w11 tys (va_A wcc H.size)) (va_A wcc H.size) a) (va_A wcc H.size)) (hP : va_P D cl ws H) (hD : va_D A0 ws) (hS : va_S A0 H0 H locs) (hA : ∀ q, H0.size ≤ q → A0 q) (isC isR : List Nat) (hs : ws = ex ++ gs) (hf : wf = exf ++ gs1) (hwc : wcc = wc ++ gs) (hw1 : w11 = w1 ++ gs1) (hC : isC.map (fun i => ex[i]?) = wc.map some) (h1 : isC.map (fun i => exf[i]?) = w1.map some) (h2 : isR.map (fun i => exf[i]?) = isR.map (fun i => ex[i]?)) (ha : exf.map (·.1) = ex.map (·.1)) (hga : gs1.map (·.1) = gs.map (·.1)) (hn : (List.range ex.length).all (fun i => isC.contains i || isR.contains i) = true) (hx : isC.all (fun i => decide (i < ex.length)) = true)
    (kk : ∀ (H1 : Heap) (locs1 : List Loc), va_P D cl wf H1 → va_D A0 wf → va_S A0 H0 H1 locs1 → W p l e R s m args below meth c H1 locs1 cells slots Q (F0 m (pc + 3) ls (.int r :: rest))) : W p l e R s m args below meth c H locs cells slots Q (F0 m pc ls st0) := by
  have hF := fr_core (wc := wcc) hD hS hA (fun j x hj => by
    rw [hwc] at hj
    rcases List.mem_append.mp (List.mem_of_getElem? hj) with h | h
    · obtain ⟨i, hi⟩ := List.getElem?_of_mem h
      obtain ⟨i2, g1, g2⟩ := ls_map hC hi
      exact ⟨i2, by rw [hs, List.getElem?_append_left (List.getElem?_eq_some_iff.mp g2).1]; exact g2⟩
    · obtain ⟨i, hi⟩ := List.getElem?_of_mem h
      exact ⟨ex.length + i, by rw [hs, List.getElem?_append_right (by omega), Nat.add_sub_cancel_left]; exact hi⟩)
  refine va_calli hr hS (fun q _ h => hF q h) hF (fun r1 u t H1 locs1 ht hvm hw hB hz1 hk1 hS1 => ?_)
  obtain ⟨hP1, hK1, hD1⟩ := hB
  rw [ht] at hP1
  subst hw
  obtain ⟨⟨g1, g2⟩, -⟩ := jn_T hP hD isC isR hs hf hwc hw1 hC h1 h2 ha hga hn hx hk1 hP1
  exact kk H1 locs1 g1 g2 hS1
theorem stT_v (hr : va_Run p l e R s m args below meth c H locs cells slots 0 0 (F0 m pc ls st0) rest (va_Qv (fun (_ : Unit) => True) (mPo D cl w11 tys (va_A wcc H.size)) (va_A wcc H.size) a) (va_A wcc H.size)) (hP : va_P D cl ws H) (hD : va_D A0 ws) (hS : va_S A0 H0 H locs) (hA : ∀ q, H0.size ≤ q → A0 q) (isC isR : List Nat) (hs : ws = ex ++ gs) (hf : wf = exf ++ gs1) (hwc : wcc = wc ++ gs) (hw1 : w11 = w1 ++ gs1) (hC : isC.map (fun i => ex[i]?) = wc.map some) (h1 : isC.map (fun i => exf[i]?) = w1.map some) (h2 : isR.map (fun i => exf[i]?) = isR.map (fun i => ex[i]?)) (ha : exf.map (·.1) = ex.map (·.1)) (hga : gs1.map (·.1) = gs.map (·.1)) (hn : (List.range ex.length).all (fun i => isC.contains i || isR.contains i) = true) (hx : isC.all (fun i => decide (i < ex.length)) = true)
    (kk : ∀ (H1 : Heap) (locs1 : List Loc), va_P D cl wf H1 → va_D A0 wf → va_S A0 H0 H1 locs1 → W p l e R s m args below meth c H1 locs1 cells slots Q (F0 m (pc + 3) ls rest)) : W p l e R s m args below meth c H locs cells slots Q (F0 m pc ls st0) := by
  have hF := fr_core (wc := wcc) hD hS hA (fun j x hj => by
    rw [hwc] at hj
    rcases List.mem_append.mp (List.mem_of_getElem? hj) with h | h
    · obtain ⟨i, hi⟩ := List.getElem?_of_mem h
      obtain ⟨i2, g1, g2⟩ := ls_map hC hi
      exact ⟨i2, by rw [hs, List.getElem?_append_left (List.getElem?_eq_some_iff.mp g2).1]; exact g2⟩
    · obtain ⟨i, hi⟩ := List.getElem?_of_mem h
      exact ⟨ex.length + i, by rw [hs, List.getElem?_append_right (by omega), Nat.add_sub_cancel_left]; exact hi⟩)
  refine va_callv hr hS (fun q _ h => hF q h) hF (fun u t H1 locs1 ht hvm hw hB hz1 hk1 hS1 => ?_)
  obtain ⟨hP1, hK1, hD1⟩ := hB
  rw [ht] at hP1
  obtain ⟨⟨g1, g2⟩, -⟩ := jn_T hP hD isC isR hs hf hwc hw1 hC h1 h2 ha hga hn hx hk1 hP1
  exact kk H1 locs1 g1 g2 hS1
variable {cc : ByteArray} {ad : Nat} {A : Nat → Prop}
theorem kc_aalA (hexec : p.tables.exec = Jvm.exec) (hb : c.code = cc) (hK : va_K D cl tys s) (hP : va_P D cl ws H) (q0 t0 : Nat) {cA : ClassId} {n y : Nat} {f : Nat → Option Nat} (ha : ws[q0]? = some (ad, .inl (cA, n, .inr (.inr (.inr (.inr f)))))) (ht : tys[t0]? = some (cA, .array .int)) {i : Int32} (hv : f i.toNatClampNeg = some y) (hin : okI i n) (hdg : decode cc pc = .ok (.aaload, 1))
    (kk : W p l e R s m args below meth c H locs cells slots Q (F0 m (pc + 1) ls (.ref y :: rest))) : W p l e R s m args below meth c H locs cells slots Q (F0 m pc ls (.int i :: .ref ad :: rest)) := by
  have hlt : i.toNatClampNeg < n := ok_lt hin
  exact W.aald (v := .ref y) (ty := .array .int) hexec hb (hP q0 _ ha) ((hK.2 t0 _ ht).1 n (fun j => va_rf (f j))) rfl (fun q => by cases q) (by show ¬ (i < 0 ∨ (arrV _ _ _).slots.size ≤ _); rw [arrV_size]; exact hin) (by show (arrV _ _ _).slots[_]? = _; rw [arrV_read _ _ hlt, hv]; rfl) rfl rfl hdg kk
theorem kc_iastG (hexec : p.tables.exec = Jvm.exec) (hb : c.code = cc) (hK : va_K D cl tys s) (hP : va_P D cl ws H) (hD : va_D A ws) (hS : va_S A H0 H locs) (q0 t0 : Nat) {cA : ClassId} {n : Nat} {f : Nat → Int32} (ha : ws[q0]? = some (ad, .inl (cA, n, .inl f))) (ht : tys[t0]? = some (cA, .int)) {i : Int32} {x : Int32} {j : Nat} (hj : i.toNatClampNeg = j) (hin : okI i n) (hdg : decode cc pc = .ok (.iastore, 1)) {g : Nat → Int32} (hg : g = upd f j x) (hset : ws.set q0 (ad, .inl (cA, n, .inl g)) = wf)
    (kk : ∀ (H1 : Heap) (locs1 : List Loc), va_P D cl wf H1 → va_D A wf → va_S A H0 H1 locs1 → W p l e R s m args below meth c H1 locs1 cells slots Q (F0 m (pc + 1) ls rest)) : W p l e R s m args below meth c H locs cells slots Q (F0 m pc ls (.int x :: .int i :: .ref ad :: rest)) := by
  subst hset
  exact kc_iast hexec hb hK hP hD hS q0 t0 ha ht hj hin hdg hg kk
theorem kc_copyG (hexec : p.tables.exec = Jvm.exec) (hb : c.code = cc) (hml : c.maxLocals = ls.size) {own : String} {index : Nat} (hown : s.vm.findClass own = some m.cls) (hlink : (Cond.methodLink own index arraycopyName).before args s = true) (hnat : (Cond.native arraycopyName).before args s = true) (hstat : (Cond.static arraycopyName).before args s = true) (hini : (Cond.initialized "java/lang/System").before args s = true)
    (hK : va_K D cl tys s) (hP : va_P D cl ws H) (hD : va_D A ws) (hS : va_S A H0 H locs) (q0 q1 t0 t1 : Nat) {a0 : Nat} {c0 c1 : ClassId} {n0 n1 : Nat} {f g : Nat → Int32} (ha0 : ws[q0]? = some (a0, .inl (c0, n0, .inl f))) (ha1 : ws[q1]? = some (ad, .inl (c1, n1, .inl g))) (ht0 : tys[t0]? = some (c0, .int)) (ht1 : tys[t1]? = some (c1, .int))
    {sp dp n : Int32} {N SP DP : Nat} (h1 : ¬ sp < 0) (h2 : ¬ dp < 0) (h3 : ¬ n < 0) (eN : n.toNatClampNeg = N) (eS : sp.toNatClampNeg = SP) (eD : dp.toNatClampNeg = DP) (h4 : SP + N ≤ n0) (h5 : DP + N ≤ n1)
    (hframes : 1 ≤ R.frames) (hlocals : (rest.map fun v => v.category).sum + 18 ≤ R.locals) (hdg : decode cc pc = .ok (.invokestatic index, 3)) {g1 : Nat → Int32} (hg : g1 = va_cpy f g SP DP N) (hset : ws.set q1 (ad, .inl (c1, n1, .inl g1)) = wf)
    (kk : ∀ (H1 : Heap) (locs1 : List Loc), va_P D cl wf H1 → va_D A wf → va_S A H0 H1 locs1 → W p l e R s m args below meth c H1 locs1 cells slots Q (F0 m (pc + 3) ls rest)) : W p l e R s m args below meth c H locs cells slots Q (F0 m pc ls (.int n :: .int dp :: .ref ad :: .int sp :: .ref a0 :: rest)) := by
  subst hset
  exact kc_copy hexec hb hml hown hlink hnat hstat hini hK hP hD hS q0 q1 t0 t1 ha0 ha1 ht0 ht1 h1 h2 h3 eN eS eD h4 h5 hframes hlocals hdg hg kk
end GR
