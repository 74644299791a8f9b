/-! a list of tables that act: its length goes into that of what they act on, times how many leave one in its place -/
theorem fib_sum {α β : Type} [DecidableEq β] (G : List α) (f : α → β) : ∀ O : List β, O.Nodup → (O.map (fun y => (G.filter (fun g => decide (f g = y))).length)).sum = (G.filter (fun g => decide (f g ∈ O))).length
  | [], _ => by
    have e : G.filter (fun g => decide (f g ∈ ([] : List β))) = [] := List.filter_eq_nil_iff.mpr (fun g _ => by simp)
    rw [e]
    rfl
  | y :: O, h => by
    have h2 := List.nodup_cons.mp h
    rw [List.map_cons, List.sum_cons, fib_sum G f O h2.2]
    clear h
    induction G with
    | nil => rfl
    | cons g G ih =>
      by_cases e1 : f g = y
      · have e2 : ¬ f g ∈ O := by rw [e1]; exact h2.1
        rw [List.filter_cons_of_pos (by simpa using e1), List.filter_cons_of_neg (by simpa using e2), List.filter_cons_of_pos (by simp [e1]), List.length_cons, List.length_cons, ← ih]
        omega
      · by_cases e2 : f g ∈ O
        · rw [List.filter_cons_of_neg (by simpa using e1), List.filter_cons_of_pos (by simpa using e2), List.filter_cons_of_pos (by simp [e2]), List.length_cons, List.length_cons, ← ih]
          omega
        · rw [List.filter_cons_of_neg (by simpa using e1), List.filter_cons_of_neg (by simpa using e2), List.filter_cons_of_neg (by simp [e1, e2]), ← ih]
theorem sum_const {β : Type} (f : β → Nat) (k : Nat) : ∀ O : List β, (∀ y ∈ O, f y = k) → (O.map f).sum = k * O.length
  | [], _ => by simp
  | y :: O, h => by
    rw [List.map_cons, List.sum_cons, h y List.mem_cons_self, sum_const f k O (fun z hz => h z (List.mem_cons_of_mem _ hz)), List.length_cons, Nat.mul_add]
    omega
theorem flt_len {α : Type} (P : α → Bool) (l : List α) : l.length = (l.filter P).length + (l.filter (fun x => !P x)).length := by
  induction l with
  | nil => rfl
  | cons x l ih =>
    by_cases h : P x = true
    · rw [List.filter_cons_of_pos h, List.filter_cons_of_neg (by simp [h]), List.length_cons, List.length_cons, ih]; omega
    · rw [List.filter_cons_of_neg h, List.filter_cons_of_pos (by simp [h]), List.length_cons, List.length_cons, ih]; omega
theorem act_dvd {α X : Type} [DecidableEq X] (G : List α) (act : α → X → X) (k : Nat) : ∀ (N : Nat) (xs : List X), xs.length ≤ N → xs.Nodup → (∀ g ∈ G, ∀ x ∈ xs, act g x ∈ xs) → (∀ x ∈ xs, ∃ g ∈ G, act g x = x) → (∀ x ∈ xs, ∀ g ∈ G, ∃ h ∈ G, act h (act g x) = x) → (∀ x ∈ xs, ∀ g ∈ G, ∀ h ∈ G, ∃ j ∈ G, act h (act g x) = act j x) → (∀ x ∈ xs, ∀ h ∈ G, (G.filter (fun g => decide (act g x = act h x))).length = k) → G.length ∣ k * xs.length := by
  intro N
  induction N with
  | zero =>
    intro xs hN
    have : xs = [] := List.length_eq_zero_iff.mp (by omega)
    intros
    rw [this]
    simp
  | succ N ih =>
    intro xs hN hnd h1 h2 h3 h4 h5
    match xs, hN, hnd, h1, h2, h3, h4, h5 with
    | [], _, _, _, _, _, _, _ => simp
    | x :: xs', hN, hnd, h1, h2, h3, h4, h5 =>
      have hx : x ∈ x :: xs' := List.mem_cons_self
      let inO : X → Bool := fun y => decide (∃ g ∈ G, act g x = y)
      have hO : ∀ y, inO y = true ↔ ∃ g ∈ G, act g x = y := fun y => by simp [inO]
      have hlen := flt_len inO (x :: xs')
      have hG : G.length = k * ((x :: xs').filter inO).length := by
        have e1 := fib_sum G (fun g => act g x) ((x :: xs').filter inO) (List.Pairwise.filter _ hnd)
        have e2 : G.filter (fun g => decide (act g x ∈ (x :: xs').filter inO)) = G := by
          rw [List.filter_eq_self]
          intro g hg
          simp only [decide_eq_true_eq]
          exact List.mem_filter.mpr ⟨h1 g hg x hx, (hO _).mpr ⟨g, hg, rfl⟩⟩
        rw [e2] at e1
        rw [← e1]
        refine sum_const _ k _ (fun y hy => ?_)
        obtain ⟨h, hh, eh⟩ := (hO y).mp (List.mem_filter.mp hy).2
        have := h5 x hx h hh
        rw [eh] at this
        exact this
      have hx2 : x ∈ (x :: xs').filter inO := by
        obtain ⟨g, hg, e⟩ := h2 x hx
        exact List.mem_filter.mpr ⟨hx, (hO x).mpr ⟨g, hg, e⟩⟩
      have hpos : 0 < ((x :: xs').filter inO).length := List.length_pos_of_mem hx2
      have hrest := ih ((x :: xs').filter (fun y => !inO y)) (by omega) (List.Pairwise.filter _ hnd) (fun g hg y hy => by
        obtain ⟨y1, y2⟩ := List.mem_filter.mp hy
        refine List.mem_filter.mpr ⟨h1 g hg y y1, ?_⟩
        cases hc : inO (act g y) with
        | false => rfl
        | true =>
          exfalso
          obtain ⟨h, hh, eh⟩ := (hO _).mp hc
          obtain ⟨g', hg', e'⟩ := h3 y y1 g hg
          rw [← eh] at e'
          obtain ⟨j, hj, ej⟩ := h4 x hx h hh g' hg'
          rw [ej] at e'
          have := (hO y).mpr ⟨j, hj, e'⟩
          rw [this] at y2
          simp at y2) (fun y hy => h2 y (List.mem_filter.mp hy).1) (fun y hy => h3 y (List.mem_filter.mp hy).1) (fun y hy => h4 y (List.mem_filter.mp hy).1) (fun y hy => h5 y (List.mem_filter.mp hy).1)
      rw [hlen, Nat.mul_add, ← hG]
      exact Nat.dvd_add (Nat.dvd_refl _) hrest
/-- tables by a number -/
def rd3 (m : Int) (v : V3) : V3 := (v.1 % m, v.2.1 % m, v.2.2 % m)
def rd9 (m : Int) (M : T9) : T9 := (rd3 m M.1, rd3 m M.2.1, rd3 m M.2.2)
def gA (m : Int) (g x : T9) : T9 := rd9 m (qf_mul g x)
theorem em_lin (m a b c x y z : Int) : (a * (x % m) + b * (y % m) + c * (z % m)) % m = (a * x + b * y + c * z) % m := by
  have h1 := Int.emod_add_mul_ediv x m
  have h2 := Int.emod_add_mul_ediv y m
  have h3 := Int.emod_add_mul_ediv z m
  have e : a * (x % m) + b * (y % m) + c * (z % m) = (a * x + b * y + c * z) + m * (-(a * (x / m) + b * (y / m) + c * (z / m))) := by grind
  rw [e, Int.add_mul_emod_self_left]
theorem rd_lin (m : Int) (x : T9) (v : V3) : rd3 m (qf_lin (rd9 m x) v) = rd3 m (qf_lin x v) := by
  simp only [rd3, qf_lin, rd9, em_lin]
theorem gA_rd (m : Int) (g x : T9) : gA m g (rd9 m x) = gA m g x := by
  simp only [gA, rd9, qf_mul]
  have h := rd_lin m x
  simp only [rd9] at h
  rw [h, h, h]
theorem gA_gA (m : Int) (g h x : T9) : gA m g (gA m h x) = gA m (qf_mul g h) x := by
  have e : gA m h x = rd9 m (qf_mul h x) := rfl
  rw [e, gA_rd, gA, ← qf_mul_assoc]
  rfl
/-- what leaves an invertible table in its place is 1 by m -/
theorem gA_one {m : Int} {g h x : T9} (hm : ∀ t : Int, m ∣ t * qf_det x → m ∣ t) (e : gA m g x = gA m h x) : rd9 m g = rd9 m h := by
  have key : ∀ a b c a' b' c' : Int, (∀ i : Nat, i < 3 → m ∣ (qf_lin x (a, b, c)).1 - (qf_lin x (a', b', c')).1 ∧ m ∣ (qf_lin x (a, b, c)).2.1 - (qf_lin x (a', b', c')).2.1 ∧ m ∣ (qf_lin x (a, b, c)).2.2 - (qf_lin x (a', b', c')).2.2) → m ∣ a - a' ∧ m ∣ b - b' ∧ m ∣ c - c' := by
    intro a b c a' b' c' hh
    obtain ⟨⟨k0, e0⟩, ⟨k1, e1⟩, ⟨k2, e2⟩⟩ := hh 0 (by decide)
    obtain ⟨⟨m0, m1, m2⟩, ⟨m3, m4, m5⟩, ⟨m6, m7, m8⟩⟩ := x
    simp only [qf_lin] at e0 e1 e2
    simp only [qf_det] at hm
    refine ⟨hm _ ⟨k0 * (m4 * m8 - m5 * m7) + k1 * (m5 * m6 - m3 * m8) + k2 * (m3 * m7 - m4 * m6), ?_⟩, hm _ ⟨k0 * (m2 * m7 - m1 * m8) + k1 * (m0 * m8 - m2 * m6) + k2 * (m1 * m6 - m0 * m7), ?_⟩, hm _ ⟨k0 * (m1 * m5 - m2 * m4) + k1 * (m2 * m3 - m0 * m5) + k2 * (m0 * m4 - m1 * m3), ?_⟩⟩ <;> grind
  have row : ∀ v w : V3, rd3 m (qf_lin x v) = rd3 m (qf_lin x w) → rd3 m v = rd3 m w := by
    intro v w h9
    obtain ⟨a, b, c⟩ := v
    obtain ⟨a', b', c'⟩ := w
    simp only [rd3, Prod.mk.injEq] at h9 ⊢
    have hk := key a b c a' b' c' (fun _ _ => ⟨Int.dvd_of_emod_eq_zero (Int.emod_eq_emod_iff_emod_sub_eq_zero.mp h9.1), Int.dvd_of_emod_eq_zero (Int.emod_eq_emod_iff_emod_sub_eq_zero.mp h9.2.1), Int.dvd_of_emod_eq_zero (Int.emod_eq_emod_iff_emod_sub_eq_zero.mp h9.2.2)⟩)
    exact ⟨Int.emod_eq_emod_iff_emod_sub_eq_zero.mpr (Int.emod_eq_zero_of_dvd hk.1), Int.emod_eq_emod_iff_emod_sub_eq_zero.mpr (Int.emod_eq_zero_of_dvd hk.2.1), Int.emod_eq_emod_iff_emod_sub_eq_zero.mpr (Int.emod_eq_zero_of_dvd hk.2.2)⟩
  simp only [gA, rd9, qf_mul, Prod.mk.injEq] at e ⊢
  exact ⟨row _ _ e.1, row _ _ e.2.1, row _ _ e.2.2⟩
