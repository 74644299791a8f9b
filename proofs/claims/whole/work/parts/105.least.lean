/-! the least form, its tables: what they are, and that there is one answer -/
def lx_lt : List Int → List Int → Bool
  | x :: xs, y :: ys => decide (x < y) || (decide (x = y) && lx_lt xs ys)
  | _, _ => false
theorem lx_irr (l : List Int) : lx_lt l l = false := by
  induction l with
  | nil => rfl
  | cons x xs ih => simp [lx_lt, ih]
theorem lx_tri : ∀ {l m : List Int}, l.length = m.length → lx_lt l m = false → lx_lt m l = false → l = m
  | [], [], _, _, _ => rfl
  | x :: xs, y :: ys, h, h1, h2 => by
    simp only [lx_lt, Bool.or_eq_false_iff, decide_eq_false_iff_not, Bool.and_eq_false_iff] at h1 h2
    have e : x = y := by omega
    subst e
    have := lx_tri (l := xs) (m := ys) (by simpa using h) (by rcases h1.2 with g | g <;> simp_all) (by rcases h2.2 with g | g <;> simp_all)
    rw [this]
theorem lx_trans : ∀ {l m n : List Int}, lx_lt l m = true → lx_lt m n = true → lx_lt l n = true
  | x :: xs, y :: ys, z :: zs, h1, h2 => by
    simp only [lx_lt, Bool.or_eq_true, decide_eq_true_eq, Bool.and_eq_true] at h1 h2 ⊢
    rcases h1 with h1 | ⟨h1, h1'⟩ <;> rcases h2 with h2 | ⟨h2, h2'⟩
    · left; omega
    · left; omega
    · left; omega
    · right; exact ⟨by omega, lx_trans h1' h2'⟩
  | [], _, _, h1, _ => by simp [lx_lt] at h1
  | _ :: _, [], _, h1, _ => by simp [lx_lt] at h1
  | _ :: _, _ :: _, [], _, h2 => by simp [lx_lt] at h2
theorem lx_asym {l m : List Int} (h : lx_lt l m = true) : lx_lt m l = false := by
  cases g : lx_lt m l with
  | false => rfl
  | true => have := lx_trans h g; rw [lx_irr] at this; cases this
def l6 (q : F6) : List Int := [q.1, q.2.1, q.2.2.1, q.2.2.2.1, q.2.2.2.2.1, q.2.2.2.2.2]
def l9 (M : T9) : List Int := [M.1.1, M.1.2.1, M.1.2.2, M.2.1.1, M.2.1.2.1, M.2.1.2.2, M.2.2.1, M.2.2.2.1, M.2.2.2.2]
theorem l6_inj {q r : F6} (h : l6 q = l6 r) : q = r := by
  obtain ⟨a, b, c, d, e, f⟩ := q
  obtain ⟨a', b', c', d', e', f'⟩ := r
  simp only [l6, List.cons.injEq] at h
  simp only [Prod.mk.injEq]
  omega
theorem l9_inj {M N : T9} (h : l9 M = l9 N) : M = N := by
  obtain ⟨⟨m0, m1, m2⟩, ⟨m3, m4, m5⟩, ⟨m6, m7, m8⟩⟩ := M
  obtain ⟨⟨n0, n1, n2⟩, ⟨n3, n4, n5⟩, ⟨n6, n7, n8⟩⟩ := N
  simp only [l9, List.cons.injEq] at h
  simp only [Prod.mk.injEq]
  omega
theorem nd_len {α : Type} [DecidableEq α] : ∀ {l m : List α}, l.Nodup → (∀ x ∈ l, x ∈ m) → l.length ≤ m.length
  | [], _, _, _ => Nat.zero_le _
  | x :: t, m, h, hs => by
    have hx : x ∈ m := hs x List.mem_cons_self
    have h2 := List.nodup_cons.mp h
    have h3 := nd_len (m := m.erase x) h2.2 (fun y hy => (List.mem_erase_of_ne (fun e => h2.1 (by rw [← e]; exact hy))).mpr (hs y (List.mem_cons_of_mem _ hy)))
    rw [List.length_erase_of_mem hx] at h3
    have : 0 < m.length := List.length_pos_of_mem hx
    simp only [List.length_cons]
    omega
theorem nd_eq {α : Type} [DecidableEq α] {l m : List α} (h1 : l.Nodup) (h2 : m.Nodup) (h : ∀ x, x ∈ l ↔ x ∈ m) : l.length = m.length :=
  Nat.le_antisymm (nd_len h1 (fun x hx => (h x).mp hx)) (nd_len h2 (fun x hx => (h x).mpr hx))
/-- L is the least form of q, T the first of the n tables that lead there -/
def qf_least (q L : F6) (T : T9) (n : Nat) : Prop := (∀ M, qf_gl M → lx_lt (l6 (qf_trn q M)) (l6 L) = false) ∧ ∃ l : List T9, l.Nodup ∧ (∀ M, M ∈ l ↔ qf_gl M ∧ qf_trn q M = L) ∧ l.length = n ∧ T ∈ l ∧ ∀ M ∈ l, lx_lt (l9 M) (l9 T) = false
theorem qf_least_eq {q L L' : F6} {T T' : T9} {n n' : Nat} (h : qf_least q L T n) (h' : qf_least q L' T' n') : L = L' ∧ T = T' ∧ n = n' := by
  obtain ⟨h1, l, h2, h3, h4, h5, h6⟩ := h
  obtain ⟨h1', l', h2', h3', h4', h5', h6'⟩ := h'
  have e : L = L' := by
    have g := (h3 T).mp h5
    have g' := (h3' T').mp h5'
    refine l6_inj (lx_tri rfl ?_ ?_)
    · rw [← g.2]; exact h1' T g.1
    · rw [← g'.2]; exact h1 T' g'.1
  subst e
  have hm : ∀ M, M ∈ l ↔ M ∈ l' := fun M => (h3 M).trans (h3' M).symm
  refine ⟨rfl, ?_, ?_⟩
  · exact l9_inj (lx_tri rfl (h6' T ((hm T).mp h5)) (h6 T' ((hm T').mpr h5')))
  · rw [← h4, ← h4']; exact nd_eq h2 h2' hm
theorem qf_mul_inj {U M N : T9} (hU : qf_gl U) (h : qf_mul M U = qf_mul N U) : M = N := by
  have := congrArg (fun X => qf_mul X (qf_inv U)) h
  simp only [qf_mul_assoc, qf_mul_inv hU, qf_mul_one] at this
  exact this
theorem nd_map {α β : Type} {f : α → β} {l : List α} (hf : ∀ x y, f x = f y → x = y) (h : l.Nodup) : (l.map f).Nodup := by
  induction l with
  | nil => exact List.nodup_nil
  | cons x t ih =>
    have h2 := List.nodup_cons.mp h
    rw [List.map_cons]
    refine List.nodup_cons.mpr ⟨fun hm => ?_, ih h2.2⟩
    obtain ⟨y, hy, e⟩ := List.mem_map.mp hm
    exact h2.1 (by rw [← hf _ _ e]; exact hy)
theorem lx_min {α : Type} (f : α → List Int) (hf : ∀ x y, (f x).length = (f y).length) : ∀ {l : List α}, l ≠ [] → ∃ x ∈ l, ∀ y ∈ l, lx_lt (f y) (f x) = false
  | [x], _ => ⟨x, List.mem_cons_self, fun y hy => by rw [List.mem_singleton.mp hy]; exact lx_irr _⟩
  | x :: z :: t, _ => by
    obtain ⟨w, hw, hm⟩ := lx_min f hf (l := z :: t) (by simp)
    by_cases g : lx_lt (f x) (f w) = true
    · refine ⟨x, List.mem_cons_self, fun y hy => ?_⟩
      rcases List.mem_cons.mp hy with e | hy
      · rw [e]; exact lx_irr _
      · cases g2 : lx_lt (f y) (f x) with
        | false => rfl
        | true => have := lx_trans g2 g; rw [hm y hy] at this; cases this
    · refine ⟨w, List.mem_cons_of_mem _ hw, fun y hy => ?_⟩
      rcases List.mem_cons.mp hy with e | hy
      · rw [e]; simpa using g
      · exact hm y hy
/-- forms into which tables turn each other have one least form, and as many tables -/
theorem qf_least_trn {q L : F6} {T : T9} {n : Nat} {U : T9} (hU : qf_gl U) (h : qf_least (qf_trn q U) L T n) : ∃ T', qf_least q L T' n := by
  obtain ⟨h1, l, h2, h3, h4, h5, h6⟩ := h
  have hmem : ∀ M, M ∈ l.map (fun X => qf_mul X U) ↔ qf_gl M ∧ qf_trn q M = L := by
    intro M
    rw [List.mem_map]
    constructor
    · rintro ⟨X, hX, e⟩
      have g := (h3 X).mp hX
      rw [qf_trn_trn] at g
      rw [← e]
      exact ⟨qf_gl_mul g.1 hU, g.2⟩
    · rintro ⟨g1, g2⟩
      refine ⟨qf_mul M (qf_inv U), (h3 _).mpr ⟨qf_gl_mul g1 (qf_gl_inv hU), ?_⟩, ?_⟩
      · rw [qf_trn_trn, qf_mul_assoc, qf_inv_mul hU, qf_mul_one]; exact g2
      · simp only [qf_mul_assoc, qf_inv_mul hU, qf_mul_one]
  obtain ⟨T', hT', hmin⟩ := lx_min l9 (fun _ _ => rfl) (l := l.map (fun X => qf_mul X U)) (by
    intro e
    have := List.mem_map_of_mem (f := fun X => qf_mul X U) h5
    rw [e] at this
    cases this)
  refine ⟨T', ⟨fun M hM => ?_, _, nd_map (fun x y e => qf_mul_inj hU e) h2, hmem, by rw [List.length_map]; exact h4, hT', hmin⟩⟩
  have := h1 (qf_mul M (qf_inv U)) (qf_gl_mul hM (qf_gl_inv hU))
  rw [qf_trn_trn, qf_mul_assoc, qf_inv_mul hU, qf_mul_one] at this
  exact this
/-- the state of a search behind the tables cs -/
def lk (q : F6) (M : T9) : List Int := [qf_tch q M.2.1 M.2.2, qf_tch q M.1 M.2.2, qf_tch q M.1 M.2.1]
def ls_st (q : F6) (cs : List T9) (k : List Int) (T : T9) (n : Nat) : Prop := (cs = [] ∧ n = 0) ∨ (0 < n ∧ (∀ M ∈ cs, lx_lt (lk q M) k = false) ∧ n = (cs.filter (fun M => decide (lk q M = k))).length ∧ T ∈ cs ∧ lk q T = k ∧ ∀ M ∈ cs, lk q M = k → lx_lt (l9 M) (l9 T) = false)
theorem ls_nil (q : F6) (k : List Int) (T : T9) : ls_st q [] k T 0 := Or.inl ⟨rfl, rfl⟩
theorem ls_lt {q : F6} {cs : List T9} {k : List Int} {T : T9} {n : Nat} (h : ls_st q cs k T n) (M : T9) (hl : n = 0 ∨ lx_lt (lk q M) k = true) : ls_st q (cs ++ [M]) (lk q M) M 1 := by
  have key : ∀ N ∈ cs, lx_lt (lk q M) (lk q N) = true := by
    intro N hN
    rcases h with ⟨h1, h2⟩ | ⟨h1, h2, h3, h4, h5, h6⟩
    · rw [h1] at hN; cases hN
    · have hl : lx_lt (lk q M) k = true := hl.resolve_left (by omega)
      have g := h2 N hN
      by_cases e : lk q N = k
      · rw [e]; exact hl
      · cases g2 : lx_lt k (lk q N) with
        | true => exact lx_trans hl g2
        | false =>
          have hk : k = lk q T := h5.symm
          rw [hk] at g g2 e
          exact absurd (lx_tri (l := lk q N) (m := lk q T) rfl g g2) e
  refine Or.inr ⟨Nat.one_pos, fun N hN => ?_, ?_, List.mem_append_right _ List.mem_cons_self, rfl, fun N hN e => ?_⟩
  · rcases List.mem_append.mp hN with hN | hN
    · exact lx_asym (key N hN)
    · rw [List.mem_singleton.mp hN]; exact lx_irr _
  · rw [List.filter_append]
    have : cs.filter (fun N => decide (lk q N = lk q M)) = [] := by
      rw [List.filter_eq_nil_iff]
      intro N hN
      simp only [decide_eq_true_eq]
      intro e
      have := key N hN
      rw [e, lx_irr] at this
      cases this
    rw [this]
    simp
  · rcases List.mem_append.mp hN with hN | hN
    · have := key N hN
      rw [e, lx_irr] at this
      cases this
    · rw [List.mem_singleton.mp hN]; exact lx_irr _
theorem ls_gt {q : F6} {cs : List T9} {k : List Int} {T : T9} {n : Nat} (h : ls_st q cs k T n) (M : T9) (hn : 0 < n) (hl : lx_lt k (lk q M) = true) : ls_st q (cs ++ [M]) k T n := by
  rcases h with ⟨h1, h2⟩ | ⟨h1, h2, h3, h4, h5, h6⟩
  · omega
  · have hne : lk q M ≠ k := by intro e; rw [e, lx_irr] at hl; cases hl
    refine Or.inr ⟨h1, fun N hN => ?_, ?_, List.mem_append_left _ h4, h5, fun N hN e => ?_⟩
    · rcases List.mem_append.mp hN with hN | hN
      · exact h2 N hN
      · rw [List.mem_singleton.mp hN]; exact lx_asym hl
    · rw [List.filter_append, List.filter_cons_of_neg (by simpa using hne)]
      simp only [List.filter_nil, List.append_nil]
      exact h3
    · rcases List.mem_append.mp hN with hN | hN
      · exact h6 N hN e
      · rw [List.mem_singleton.mp hN] at e; exact absurd e hne
theorem ls_eq {q : F6} {cs : List T9} {k : List Int} {T : T9} {n : Nat} (h : ls_st q cs k T n) (M : T9) (hn : 0 < n) (hl : lk q M = k) : ls_st q (cs ++ [M]) k (if lx_lt (l9 M) (l9 T) = true then M else T) (n + 1) := by
  rcases h with ⟨h1, h2⟩ | ⟨h1, h2, h3, h4, h5, h6⟩
  · omega
  · refine Or.inr ⟨by omega, fun N hN => ?_, ?_, ?_, ?_, fun N hN e => ?_⟩
    · rcases List.mem_append.mp hN with hN | hN
      · exact h2 N hN
      · rw [List.mem_singleton.mp hN, hl]; exact lx_irr _
    · rw [List.filter_append, List.filter_cons_of_pos (by simpa using hl), List.length_append, ← h3]
      simp
    · split
      · exact List.mem_append_right _ List.mem_cons_self
      · exact List.mem_append_left _ h4
    · split
      · exact hl
      · exact h5
    · rcases List.mem_append.mp hN with hN | hN
      · have := h6 N hN e
        split
        · rename_i g
          cases g2 : lx_lt (l9 N) (l9 M) with
          | false => rfl
          | true => have := lx_trans g2 g; rw [h6 N hN e] at this; cases this
        · exact this
      · rw [List.mem_singleton.mp hN]
        split
        · exact lx_irr _
        · rename_i g; simpa using g
theorem ls_fin {q : F6} {cs : List T9} {d e f : Int} {T : T9} {n : Nat} {a b c : Int} (h : ls_st q cs [d, e, f] T n) (hnd : cs.Nodup) (hne : cs ≠ []) (hmem : ∀ M, M ∈ cs ↔ qf_gl M ∧ qf_val q M.1 = a ∧ qf_val q M.2.1 = b ∧ qf_val q M.2.2 = c) (hmin : ∀ M, qf_gl M → qr_le3 a b c (qf_val q M.1) (qf_val q M.2.1) (qf_val q M.2.2)) : qf_least q (a, b, c, d, e, f) T n := by
  rcases h with ⟨h1, h2⟩ | ⟨h1, h2, h3, h4, h5, h6⟩
  · exact absurd h1 hne
  · refine ⟨fun M hM => ?_, cs.filter (fun M => decide (lk q M = [d, e, f])), List.Pairwise.filter _ hnd, fun M => ?_, h3.symm, ?_, fun M hM => ?_⟩
    · cases g : lx_lt (l6 (qf_trn q M)) (l6 (a, b, c, d, e, f)) with
      | false => rfl
      | true =>
        have g1 := hmin M hM
        unfold qr_le3 at g1
        simp only [l6, qf_trn, lx_lt, Bool.or_eq_true, decide_eq_true_eq, Bool.and_eq_true, Bool.false_eq_true, and_false, or_false] at g
        have g2 : qf_val q M.1 = a ∧ qf_val q M.2.1 = b ∧ qf_val q M.2.2 = c := by omega
        have g3 := h2 M ((hmem M).mpr ⟨hM, g2⟩)
        simp only [lk, lx_lt, Bool.or_eq_false_iff, Bool.and_eq_false_iff, decide_eq_false_iff_not, or_true, and_true] at g3
        omega
    · rw [List.mem_filter, hmem]
      simp only [lk, qf_trn, decide_eq_true_eq, List.cons.injEq, Prod.mk.injEq]
      constructor
      · rintro ⟨⟨g1, g2, g3, g4⟩, g5, g6, g7, _⟩
        exact ⟨g1, g2, g3, g4, g5, g6, g7⟩
      · rintro ⟨g1, g2, g3, g4, g5, g6, g7⟩
        exact ⟨⟨g1, g2, g3, g4⟩, g5, g6, g7, trivial⟩
    · exact List.mem_filter.mpr ⟨h4, by simpa using h5⟩
    · have := List.mem_filter.mp hM
      exact h6 M this.1 (by simpa using this.2)
