/-! the reference: findLeast -/
def dK (u v : V3) (Lc : List V3) : List T9 := (Lc.filter (fun w => decide (qf_det (u, v, w) = 1 ∨ qf_det (u, v, w) = -1))).map (fun w => (u, v, w))
def dJ (u : V3) (Lb Lc : List V3) : List T9 := Lb.flatMap (fun v => dK u v Lc)
def dI (La Lb Lc : List V3) : List T9 := La.flatMap (fun u => dJ u Lb Lc)
theorem dK_len (u v : V3) (Lc : List V3) : (dK u v Lc).length ≤ Lc.length := by
  unfold dK
  rw [List.length_map]
  exact List.length_filter_le _ _
theorem dJ_len (u : V3) (Lc : List V3) (hc : Lc.length ≤ 420) : ∀ Lb : List V3, (dJ u Lb Lc).length ≤ 420 * Lb.length
  | [] => by simp [dJ]
  | v :: Lb => by
    have h1 := dJ_len u Lc hc Lb
    have h2 := dK_len u v Lc
    unfold dJ at h1 ⊢
    rw [List.flatMap_cons, List.length_append, List.length_cons]
    omega
theorem dI_mem {La Lb Lc : List V3} {M : T9} : M ∈ dI La Lb Lc ↔ M.1 ∈ La ∧ M.2.1 ∈ Lb ∧ M.2.2 ∈ Lc ∧ qf_gl M := by
  unfold dI dJ dK
  simp only [List.mem_flatMap, List.mem_map, List.mem_filter, decide_eq_true_eq]
  constructor
  · rintro ⟨u, hu, v, hv, w, ⟨hw, hd⟩, e⟩
    subst e
    exact ⟨hu, hv, hw, hd⟩
  · rintro ⟨hu, hv, hw, hd⟩
    exact ⟨M.1, hu, M.2.1, hv, M.2.2, ⟨hw, hd⟩, rfl⟩
theorem dI_nd {La Lb Lc : List V3} (ha : La.Nodup) (hb : Lb.Nodup) (hc : Lc.Nodup) : (dI La Lb Lc).Nodup := by
  have hK : ∀ u v, (dK u v Lc).Nodup := by
    intro u v
    unfold dK
    refine nd_map (fun x y e => ?_) (List.Pairwise.filter _ hc)
    simp only [Prod.mk.injEq, true_and] at e
    exact e
  have mK : ∀ u v M, M ∈ dK u v Lc → M.1 = u ∧ M.2.1 = v := by
    intro u v M hM
    unfold dK at hM
    obtain ⟨w, _, e⟩ := List.mem_map.mp hM
    rw [← e]
    exact ⟨rfl, rfl⟩
  have hJ : ∀ u, (dJ u Lb Lc).Nodup := by
    intro u
    unfold dJ
    refine List.pairwise_flatMap.mpr ⟨fun v _ => hK u v, List.Pairwise.imp (fun {a b} hab x hx y hy e => ?_) hb⟩
    have h1 := (mK _ _ _ hx).2
    have h2 := (mK _ _ _ hy).2
    rw [e, h2] at h1
    exact hab h1.symm
  unfold dI
  refine List.pairwise_flatMap.mpr ⟨fun u _ => hJ u, List.Pairwise.imp (fun {a b} hab x hx y hy e => ?_) ha⟩
  have mJ : ∀ u M, M ∈ dJ u Lb Lc → M.1 = u := by
    intro u M hM
    unfold dJ at hM
    obtain ⟨v, _, h⟩ := List.mem_flatMap.mp hM
    exact (mK _ _ _ h).1
  have h1 := mJ _ _ hx
  have h2 := mJ _ _ hy
  rw [e, h2] at h1
  exact hab h1.symm
def fl_C (q0 : F6) (B : T9) (q base lists : Nat → Int64) (sizes : Nat → Int32) (La Lb Lc : List V3) : Prop := al6 q (qf_trn q0 B) ∧ al9 base B ∧ (sgI 0 La lists sizes ∧ sgI 1 Lb lists sizes ∧ sgI 2 Lc lists sizes) ∧ ((∀ v ∈ La, b4 v) ∧ (∀ v ∈ Lb, b4 v) ∧ (∀ v ∈ Lc, b4 v)) ∧ ∀ u ∈ La, ∀ v ∈ Lb, ∀ w ∈ Lc, (∀ t ∈ lk q0 (qf_mul (u, v, w) B), rL t) ∧ ((qf_det (u, v, w) = 1 ∨ qf_det (u, v, w) = -1) → ∀ t ∈ l9 (qf_mul (u, v, w) B), rL t)
theorem ix_600 : (1800 : Int32) = ix 1800 ∧ (3600 : Int32) = ix 3600 := ⟨rfl, rfl⟩
theorem fl_150 {q0 : F6} {B : T9} {α β γ : Int} {q base lists : Nat → Int64} {sizes : Nat → Int32} {La Lb Lc : List V3} (hC : fl_C q0 B q base lists sizes La Lb Lc) {i j : Nat} {u v : V3} (hi : La[i]? = some u) (hj : Lb[j]? = some v) (k190 : Int32 → (Nat → Int64) → (Nat → Int64) → (Nat → Int64) → Option (Int32 × (Nat → Int64) × (Nat → Int64) × (Nat → Int64) × (Nat → Int64) × (Nat → Int64) × (Nat → Int64) × (Nat → Int32) × (Nat → Int64))) {F : Nat} (hF : 100 ≤ F) : ∀ (rest pre : List V3) (n : Nat) (cs : List T9) (turns : Int32) (least table tried : Nat → Int64), Lc = pre ++ rest → rest.length + 1 ≤ n → lsR q0 α β γ cs turns least table → cs.length + rest.length ≤ 100000000 → ∃ t l tb tr, fX7_findLeast_L150 sizes k190 F q base lists (ix i) (ix j) n (ix pre.length) turns least table tried = k190 t l tb tr ∧ lsR q0 α β γ (cs ++ (dK u v rest).map (fun X => qf_mul X B)) t l tb := by
  obtain ⟨hq, hB, ⟨s0, s1, s2⟩, ⟨b0, b1, b2⟩, hk⟩ := hC
  have li := (List.getElem?_eq_some_iff.mp hi).1
  have lj := (List.getElem?_eq_some_iff.mp hj).1
  have l0 := s0.2.1
  have l1 := s1.2.1
  have l2 := s2.2.1
  have hu := s0.2.2 i u hi
  have hv := s1.2.2 j v hj
  intro rest
  induction rest with
  | nil =>
    intro pre n cs turns least table tried e hn hst hlen
    obtain ⟨n, rfl⟩ : ∃ m, n = m + 1 := ⟨n - 1, by omega⟩
    rw [List.append_nil] at e
    rw [fX7_findLeast_L150, if_pos (by rw [s2.1, e, ix_le (by rw [← e]; omega) (by rw [← e]; omega)]; exact Nat.le_refl _)]
    exact ⟨_, _, _, _, rfl, by simpa [dK] using hst⟩
  | cons w rest ih =>
    intro pre n cs turns least table tried e hn hst hlen
    obtain ⟨n, rfl⟩ : ∃ m, n = m + 1 := ⟨n - 1, by omega⟩
    have hw9 : Lc[pre.length]? = some w := by rw [e, List.getElem?_append_right (Nat.le_refl _), Nat.sub_self]; rfl
    have lk9 := (List.getElem?_eq_some_iff.mp hw9).1
    have hw := s2.2.2 pre.length w hw9
    rw [fX7_findLeast_L150, if_neg (by rw [s2.1, ix_le (by omega) (by omega)]; omega), ix_600.1, ix_600.2, ix_3, ix_mul, ix_mul, ix_mul, ix_add, ix_add]
    have mu := List.mem_of_getElem? hi
    have mv := List.mem_of_getElem? hj
    have mw := List.mem_of_getElem? hw9
    have hlen' := hlen
    simp only [List.length_cons] at hlen' hn
    obtain ⟨t, l, tb, tr, g1, g2⟩ := tr_all hq hB (i := 3 * i) (j := 1800 + 3 * j) (k := 3600 + 3 * pre.length) (by omega) (by omega) (by omega) (by have h9 := hu; rw [Nat.mul_zero, Nat.zero_add] at h9; exact h9) hv hw (b0 u mu) (b1 v mv) (b2 w mw) hst (by omega) (hk u mu v mv w mw).1 (hk u mu v mv w mw).2 tried hF
    rw [g1]
    simp only [bd4, nm_eq]
    rw [ix_1, ix_add]
    have e2 : Lc = (pre ++ [w]) ++ rest := by rw [e, List.append_assoc]; rfl
    have el : (pre ++ [w]).length = pre.length + 1 := by simp
    have hcl : (if qf_det (u, v, w) = 1 ∨ qf_det (u, v, w) = -1 then cs ++ [qf_mul (u, v, w) B] else cs).length + rest.length ≤ 100000000 := by
      split
      · rw [List.length_append]; simp only [List.length_cons, List.length_nil]; omega
      · omega
    obtain ⟨t', l', tb', tr', g3, g4⟩ := ih (pre ++ [w]) n _ t l tb tr e2 (by omega) g2 hcl
    rw [el] at g3
    refine ⟨t', l', tb', tr', g3, ?_⟩
    by_cases hd : qf_det (u, v, w) = 1 ∨ qf_det (u, v, w) = -1
    · rw [if_pos hd] at g4
      have e4 : dK u v (w :: rest) = (u, v, w) :: dK u v rest := by
        unfold dK
        rw [List.filter_cons_of_pos (by simpa using hd)]
        rfl
      rw [e4, List.map_cons]
      rw [List.append_assoc] at g4
      exact g4
    · rw [if_neg hd] at g4
      have e4 : dK u v (w :: rest) = dK u v rest := by
        unfold dK
        rw [List.filter_cons_of_neg (by simpa using hd)]
      rw [e4]
      exact g4
theorem fl_136 {q0 : F6} {B : T9} {α β γ : Int} {q base lists : Nat → Int64} {sizes : Nat → Int32} {La Lb Lc : List V3} (hC : fl_C q0 B q base lists sizes La Lb Lc) {i : Nat} {u : V3} (hi : La[i]? = some u) (k196 : Int32 → (Nat → Int64) → (Nat → Int64) → (Nat → Int64) → Option (Int32 × (Nat → Int64) × (Nat → Int64) × (Nat → Int64) × (Nat → Int64) × (Nat → Int64) × (Nat → Int64) × (Nat → Int32) × (Nat → Int64))) {F : Nat} (hF : 1000 ≤ F) : ∀ (rest pre : List V3) (n : Nat) (cs : List T9) (turns : Int32) (least table tried : Nat → Int64), Lb = pre ++ rest → rest.length + 1 ≤ n → lsR q0 α β γ cs turns least table → cs.length + 420 * rest.length ≤ 100000000 → ∃ t l tb tr, fX7_findLeast_L136 sizes k196 F q base lists (ix i) n (ix pre.length) turns least table tried = k196 t l tb tr ∧ lsR q0 α β γ (cs ++ (dJ u rest Lc).map (fun X => qf_mul X B)) t l tb := by
  have hC' := hC
  obtain ⟨hq, hB, ⟨s0, s1, s2⟩, ⟨b0, b1, b2⟩, hk⟩ := hC'
  have l1 := s1.2.1
  have l2 := s2.2.1
  intro rest
  induction rest with
  | nil =>
    intro pre n cs turns least table tried e hn hst hlen
    obtain ⟨n, rfl⟩ : ∃ m, n = m + 1 := ⟨n - 1, by omega⟩
    rw [List.append_nil] at e
    rw [fX7_findLeast_L136, if_pos (by rw [s1.1, e, ix_le (by rw [← e]; omega) (by rw [← e]; omega)]; exact Nat.le_refl _)]
    exact ⟨_, _, _, _, rfl, by simpa [dJ] using hst⟩
  | cons v rest ih =>
    intro pre n cs turns least table tried e hn hst hlen
    obtain ⟨n, rfl⟩ : ∃ m, n = m + 1 := ⟨n - 1, by omega⟩
    have hj : Lb[pre.length]? = some v := by rw [e, List.getElem?_append_right (Nat.le_refl _), Nat.sub_self]; rfl
    have lj := (List.getElem?_eq_some_iff.mp hj).1
    simp only [List.length_cons] at hlen hn
    have hdk := dK_len u v Lc
    obtain ⟨t, l, tb, tr, g1, g2⟩ := fl_150 hC hi hj (fun t l tb tr => fX7_findLeast_L136 sizes k196 F q base lists (ix i) n (ix (pre.length + 1)) t l tb tr) (F := F) (by omega) Lc [] F cs turns least table tried rfl (by omega) hst (by omega)
    have e2 : Lb = (pre ++ [v]) ++ rest := by rw [e, List.append_assoc]; rfl
    have el : (pre ++ [v]).length = pre.length + 1 := by simp
    obtain ⟨t', l', tb', tr', g3, g4⟩ := ih (pre ++ [v]) n _ t l tb tr e2 (by omega) g2 (by rw [List.length_append, List.length_map]; omega)
    rw [el] at g3
    refine ⟨t', l', tb', tr', ?_, ?_⟩
    · rw [fX7_findLeast_L136, if_neg (by rw [s1.1, ix_le (by omega) (by omega)]; omega)]
      simp only [nm_eq, ix_1, ix_0, ix_add]
      exact g1.trans g3
    · have e4 : dJ u (v :: rest) Lc = dK u v Lc ++ dJ u rest Lc := by
        unfold dJ
        rw [List.flatMap_cons]
      rw [e4, List.map_append, ← List.append_assoc]
      exact g4
theorem fl_123 {q0 : F6} {B : T9} {α β γ : Int} {q base rows lists : Nat → Int64} {sizes : Nat → Int32} {La Lb Lc : List V3} (hC : fl_C q0 B q base lists sizes La Lb Lc) {F : Nat} (hF : 1000 ≤ F) : ∀ (rest pre : List V3) (n : Nat) (cs : List T9) (turns : Int32) (least table tried : Nat → Int64), La = pre ++ rest → rest.length + 1 ≤ n → lsR q0 α β γ cs turns least table → cs.length + 176400 * rest.length ≤ 100000000 → ∃ t l tb tr, fX7_findLeast_L123 sizes q base rows lists F n (ix pre.length) turns least table tried = some (t, q, base, l, tb, rows, lists, sizes, tr) ∧ lsR q0 α β γ (cs ++ (dI rest Lb Lc).map (fun X => qf_mul X B)) t l tb := by
  have hC' := hC
  obtain ⟨hq, hB, ⟨s0, s1, s2⟩, ⟨b0, b1, b2⟩, hk⟩ := hC'
  have l0 := s0.2.1
  have l1 := s1.2.1
  have l2 := s2.2.1
  intro rest
  induction rest with
  | nil =>
    intro pre n cs turns least table tried e hn hst hlen
    obtain ⟨n, rfl⟩ : ∃ m, n = m + 1 := ⟨n - 1, by omega⟩
    rw [List.append_nil] at e
    rw [fX7_findLeast_L123, if_pos (by rw [s0.1, e, ix_le (by rw [← e]; omega) (by rw [← e]; omega)]; exact Nat.le_refl _)]
    exact ⟨_, _, _, _, rfl, by simpa [dI] using hst⟩
  | cons u rest ih =>
    intro pre n cs turns least table tried e hn hst hlen
    obtain ⟨n, rfl⟩ : ∃ m, n = m + 1 := ⟨n - 1, by omega⟩
    have hi : La[pre.length]? = some u := by rw [e, List.getElem?_append_right (Nat.le_refl _), Nat.sub_self]; rfl
    have li := (List.getElem?_eq_some_iff.mp hi).1
    simp only [List.length_cons] at hlen hn
    have hdj := dJ_len u Lc l2 Lb
    obtain ⟨t, l, tb, tr, g1, g2⟩ := fl_136 hC hi (fun t l tb tr => fX7_findLeast_L123 sizes q base rows lists F n (ix (pre.length + 1)) t l tb tr) hF Lb [] F cs turns least table tried rfl (by omega) hst (by omega)
    have e2 : La = (pre ++ [u]) ++ rest := by rw [e, List.append_assoc]; rfl
    have el : (pre ++ [u]).length = pre.length + 1 := by simp
    obtain ⟨t', l', tb', tr', g3, g4⟩ := ih (pre ++ [u]) n _ t l tb tr e2 (by omega) g2 (by rw [List.length_append, List.length_map]; omega)
    rw [el] at g3
    refine ⟨t', l', tb', tr', ?_, ?_⟩
    · rw [fX7_findLeast_L123, if_neg (by rw [s0.1, ix_le (by omega) (by omega)]; omega)]
      simp only [nm_eq, ix_1, ix_0, ix_add]
      exact g1.trans g3
    · have e4 : dI (u :: rest) Lb Lc = dJ u Lb Lc ++ dI rest Lb Lc := by
        unfold dI
        rw [List.flatMap_cons]
      rw [e4, List.map_append, ← List.append_assoc]
      exact g4
