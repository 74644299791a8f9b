/-! the tables that turn a form into itself, by 2 and by 3 -/
def aut_ (L : F6) (G : List T9) : Prop := G.Nodup ∧ ∀ M, M ∈ G ↔ qf_gl M ∧ qf_trn L M = L
theorem aut_mul {L : F6} {G : List T9} (h : aut_ L G) {g k : T9} (hg : g ∈ G) (hk : k ∈ G) : qf_mul g k ∈ G := by
  have g1 := (h.2 g).mp hg
  have k1 := (h.2 k).mp hk
  exact (h.2 _).mpr ⟨qf_gl_mul g1.1 k1.1, by rw [← qf_trn_trn, k1.2]; exact g1.2⟩
theorem aut_one {L : F6} {G : List T9} (h : aut_ L G) : qf_one ∈ G := (h.2 _).mpr ⟨qf_gl_one, qf_trn_one L⟩
theorem aut_inv {L : F6} {G : List T9} (h : aut_ L G) {g : T9} (hg : g ∈ G) : qf_inv g ∈ G := by
  have g1 := (h.2 g).mp hg
  refine (h.2 _).mpr ⟨qf_gl_inv g1.1, ?_⟩
  have := qf_trn_inv (q := L) g1.1
  rw [g1.2] at this
  exact this
theorem em_lin2 (m a b c x y z : Int) : ((x % m) * a + (y % m) * b + (z % m) * c) % m = (x * a + y * b + z * c) % m := by
  have h1 := Int.emod_add_mul_ediv x m
  have h2 := Int.emod_add_mul_ediv y m
  have h3 := Int.emod_add_mul_ediv z m
  have e : (x % m) * a + (y % m) * b + (z % m) * c = (x * a + y * b + z * c) + m * (-(a * (x / m) + b * (y / m) + c * (z / m))) := by grind
  rw [e, Int.add_mul_emod_self_left]
theorem gA_left {m : Int} {g h : T9} (e : rd9 m g = rd9 m h) (x : T9) : gA m g x = gA m h x := by
  have k : ∀ v : V3, rd3 m (qf_lin x v) = rd3 m (qf_lin x (rd3 m v)) := by
    intro v
    simp only [rd3, qf_lin, em_lin2]
  simp only [rd9, Prod.mk.injEq] at e
  simp only [gA, rd9, qf_mul]
  rw [k g.1, k g.2.1, k g.2.2, e.1, e.2.1, e.2.2, ← k, ← k, ← k]
theorem gA_id {m : Int} {x : T9} (hx : rd9 m x = x) : gA m qf_one x = x := by
  rw [gA, qf_one_mul, hx]
theorem aut_act {L : F6} {G : List T9} (h : aut_ L G) {m : Int} {xs : List T9} (hnd : xs.Nodup) (h1 : ∀ x ∈ xs, rd9 m x = x) (h2 : ∀ x ∈ xs, ∀ t : Int, m ∣ t * qf_det x → m ∣ t) (h3 : ∀ g ∈ G, ∀ x ∈ xs, gA m g x ∈ xs) : G.length ∣ (G.filter (fun g => decide (rd9 m g = rd9 m qf_one))).length * xs.length := by
  refine act_dvd G (gA m) _ xs.length xs (Nat.le_refl _) hnd h3 (fun x hx => ⟨qf_one, aut_one h, gA_id (h1 x hx)⟩) (fun x hx g hg => ⟨qf_inv g, aut_inv h hg, ?_⟩) (fun x hx g hg k hk => ⟨qf_mul k g, aut_mul h hk hg, gA_gA _ _ _ _⟩) (fun x hx k hk => ?_)
  · rw [gA_gA, qf_inv_mul ((h.2 g).mp hg).1]
    exact gA_id (h1 x hx)
  · have hkg := ((h.2 k).mp hk).1
    rw [← List.length_map (f := fun g => qf_mul (qf_inv k) g)]
    refine nd_eq (nd_map (fun a b e => ?_) (List.Pairwise.filter _ h.1)) (List.Pairwise.filter _ h.1) (fun g => ?_)
    · have e2 := congrArg (qf_mul k) e
      simp only [← qf_mul_assoc, qf_mul_inv hkg, qf_one_mul] at e2
      exact e2
    · rw [List.mem_map, List.mem_filter]
      simp only [List.mem_filter, decide_eq_true_eq]
      constructor
      · rintro ⟨a, ⟨ha, ea⟩, e⟩
        subst e
        refine ⟨aut_mul h (aut_inv h hk) ha, gA_one (h2 x hx) ?_⟩
        rw [← gA_gA, ea, gA_gA, qf_inv_mul hkg]
      · rintro ⟨hg, eg⟩
        refine ⟨qf_mul k g, ⟨aut_mul h hk hg, ?_⟩, by simp only [← qf_mul_assoc, qf_inv_mul hkg, qf_one_mul]⟩
        rw [← gA_gA, gA_left eg x, gA_gA, qf_mul_one]
/-- the invertible tables by m -/
def Rm (m : Nat) : List V3 := (iv m 0).flatMap (fun x => (iv m 0).flatMap (fun y => (iv m 0).map (fun z => (x, y, z))))
def Xm (m : Nat) : List T9 := (Rm m).flatMap (fun u => (Rm m).flatMap (fun v => ((Rm m).filter (fun w => decide (qf_det (u, v, w) % (m : Int) ≠ 0))).map (fun w => (u, v, w))))
theorem Rm_mem {m : Nat} {v : V3} : v ∈ Rm m ↔ (0 ≤ v.1 ∧ v.1 < m) ∧ (0 ≤ v.2.1 ∧ v.2.1 < m) ∧ (0 ≤ v.2.2 ∧ v.2.2 < m) := by
  unfold Rm
  simp only [List.mem_flatMap, List.mem_map, iv_mem]
  constructor
  · rintro ⟨x, hx, y, hy, z, hz, e⟩
    subst e
    dsimp only
    omega
  · rintro ⟨h1, h2, h3⟩
    exact ⟨v.1, by omega, v.2.1, by omega, v.2.2, by omega, rfl⟩
theorem Rm_nd (m : Nat) : (Rm m).Nodup := by
  unfold Rm
  refine List.pairwise_flatMap.mpr ⟨fun x _ => List.pairwise_flatMap.mpr ⟨fun y _ => nd_map (fun a b e => by simp only [Prod.mk.injEq] at e; exact e.2.2) (iv_nd _ _), List.Pairwise.imp (fun {a b} hab u hu w hw e => ?_) (iv_nd _ _)⟩, List.Pairwise.imp (fun {a b} hab u hu w hw e => ?_) (iv_nd _ _)⟩
  · obtain ⟨z, _, e1⟩ := List.mem_map.mp hu
    obtain ⟨z', _, e2⟩ := List.mem_map.mp hw
    rw [← e1, ← e2] at e
    simp only [Prod.mk.injEq] at e
    exact hab e.2.1
  · obtain ⟨y, _, h1⟩ := List.mem_flatMap.mp hu
    obtain ⟨y', _, h2⟩ := List.mem_flatMap.mp hw
    obtain ⟨z, _, e1⟩ := List.mem_map.mp h1
    obtain ⟨z', _, e2⟩ := List.mem_map.mp h2
    rw [← e1, ← e2] at e
    simp only [Prod.mk.injEq] at e
    exact hab e.1
theorem Xm_mem {m : Nat} {M : T9} : M ∈ Xm m ↔ M.1 ∈ Rm m ∧ M.2.1 ∈ Rm m ∧ M.2.2 ∈ Rm m ∧ qf_det M % (m : Int) ≠ 0 := by
  unfold Xm
  simp only [List.mem_flatMap, List.mem_map, List.mem_filter, decide_eq_true_eq]
  constructor
  · rintro ⟨u, hu, v, hv, w, ⟨hw, hd⟩, e⟩
    subst e
    exact ⟨hu, hv, hw, hd⟩
  · rintro ⟨hu, hv, hw, hd⟩
    exact ⟨M.1, hu, M.2.1, hv, M.2.2, ⟨hw, hd⟩, rfl⟩
theorem Xm_nd (m : Nat) : (Xm m).Nodup := by
  unfold Xm
  refine List.pairwise_flatMap.mpr ⟨fun u _ => List.pairwise_flatMap.mpr ⟨fun v _ => nd_map (fun a b e => by simp only [Prod.mk.injEq, true_and] at e; exact e) (List.Pairwise.filter _ (Rm_nd m)), List.Pairwise.imp (fun {a b} hab x hx y hy e => ?_) (Rm_nd m)⟩, List.Pairwise.imp (fun {a b} hab x hx y hy e => ?_) (Rm_nd m)⟩
  · obtain ⟨z, _, e1⟩ := List.mem_map.mp hx
    obtain ⟨z', _, e2⟩ := List.mem_map.mp hy
    rw [← e1, ← e2] at e
    simp only [Prod.mk.injEq] at e
    exact hab e.2.1
  · obtain ⟨v, _, h1⟩ := List.mem_flatMap.mp hx
    obtain ⟨v', _, h2⟩ := List.mem_flatMap.mp hy
    obtain ⟨z, _, e1⟩ := List.mem_map.mp h1
    obtain ⟨z', _, e2⟩ := List.mem_map.mp h2
    rw [← e1, ← e2] at e
    simp only [Prod.mk.injEq] at e
    exact hab e.1
theorem Rm_rd {m : Nat} (hm : 0 < m) (v : V3) : rd3 (m : Int) v ∈ Rm m := by
  rw [Rm_mem]
  unfold rd3
  dsimp only
  have h1 := Int.emod_nonneg v.1 (by omega : (m : Int) ≠ 0)
  have h2 := Int.emod_nonneg v.2.1 (by omega : (m : Int) ≠ 0)
  have h3 := Int.emod_nonneg v.2.2 (by omega : (m : Int) ≠ 0)
  have h4 := Int.emod_lt_of_pos v.1 (by omega : (0 : Int) < m)
  have h5 := Int.emod_lt_of_pos v.2.1 (by omega : (0 : Int) < m)
  have h6 := Int.emod_lt_of_pos v.2.2 (by omega : (0 : Int) < m)
  omega
theorem Rm_id {m : Nat} {v : V3} (h : v ∈ Rm m) : rd3 (m : Int) v = v := by
  obtain ⟨h1, h2, h3⟩ := Rm_mem.mp h
  unfold rd3
  rw [Int.emod_eq_of_lt h1.1 h1.2, Int.emod_eq_of_lt h2.1 h2.2, Int.emod_eq_of_lt h3.1 h3.2]
theorem det_rd (m : Int) (M : T9) : qf_det (rd9 m M) % m = qf_det M % m := by
  obtain ⟨⟨m0, m1, m2⟩, ⟨m3, m4, m5⟩, ⟨m6, m7, m8⟩⟩ := M
  simp only [rd9, rd3, qf_det]
  have k : ∀ x : Int, ∃ k, x % m = x + m * k := fun x => ⟨-(x / m), by have := Int.emod_add_mul_ediv x m; grind⟩
  obtain ⟨k0, e0⟩ := k m0
  obtain ⟨k1, e1⟩ := k m1
  obtain ⟨k2, e2⟩ := k m2
  obtain ⟨k3, e3⟩ := k m3
  obtain ⟨k4, e4⟩ := k m4
  obtain ⟨k5, e5⟩ := k m5
  obtain ⟨k6, e6⟩ := k m6
  obtain ⟨k7, e7⟩ := k m7
  obtain ⟨k8, e8⟩ := k m8
  rw [e0, e1, e2, e3, e4, e5, e6, e7, e8]
  apply Int.emod_eq_emod_iff_emod_sub_eq_zero.mpr
  apply Int.emod_eq_zero_of_dvd
  have two : ∀ x y a b : Int, m ∣ x * y - (x + m * a) * (y + m * b) := fun x y a b => ⟨-(x * b + a * y + m * a * b), by grind⟩
  have hs : ∀ x y : Int, m ∣ x → m ∣ y → m ∣ x - y := fun x y hx hy => Int.dvd_sub hx hy
  have s1 : ∀ a b c d a' b' c' d' : Int, m ∣ (a * b - c * d) - ((a + m * a') * (b + m * b') - (c + m * c') * (d + m * d')) := fun a b c d a' b' c' d' => by
    have h1 := two a b a' b'
    have h2 := two c d c' d'
    have e : (a * b - c * d) - ((a + m * a') * (b + m * b') - (c + m * c') * (d + m * d')) = (a * b - (a + m * a') * (b + m * b')) - (c * d - (c + m * c') * (d + m * d')) := by grind
    rw [e]
    exact hs _ _ h1 h2
  have p1 : ∀ x a s s' : Int, m ∣ s - s' → m ∣ (x + m * a) * s' - x * s := fun x a s s' ⟨q, hq⟩ => ⟨a * s' - x * q, by grind⟩
  have q1 := p1 m0 k0 _ _ (s1 m4 m8 m5 m7 k4 k8 k5 k7)
  have q2 := p1 m1 k1 _ _ (s1 m3 m8 m5 m6 k3 k8 k5 k6)
  have q3 := p1 m2 k2 _ _ (s1 m3 m7 m4 m6 k3 k7 k4 k6)
  obtain ⟨r1, h1⟩ := q1
  obtain ⟨r2, h2⟩ := q2
  obtain ⟨r3, h3⟩ := q3
  exact ⟨r1 - r2 + r3, by
    have e9 : m * (r1 - r2 + r3) = m * r1 - m * r2 + m * r3 := by grind
    rw [e9]
    omega⟩
theorem Xm_gA {m : Nat} (hm : 0 < m) (hpr : ∀ a b : Int, a % (m : Int) ≠ 0 → b % (m : Int) ≠ 0 → (a * b) % (m : Int) ≠ 0) {g x : T9} (hg : qf_det g % (m : Int) ≠ 0) (hx : x ∈ Xm m) : gA (m : Int) g x ∈ Xm m := by
  obtain ⟨x1, x2, x3, x4⟩ := Xm_mem.mp hx
  refine Xm_mem.mpr ⟨Rm_rd hm _, Rm_rd hm _, Rm_rd hm _, ?_⟩
  unfold gA
  rw [det_rd, qf_det_mul]
  exact hpr _ _ hg x4
