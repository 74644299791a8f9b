/-! lines: u and t -/
def un (k : Nat) : V3 := if k = 0 then (1, 0, 0) else if k = 1 then (0, 1, 0) else (0, 0, 1)
def zW (l : V3) (p t : Int) (u : Nat) : V3 := (l.1 + p * t * (un u).1, l.2.1 + p * t * (un u).2.1, l.2.2 + p * t * (un u).2.2)
theorem zW_val (Q : F6) (l : V3) (p t : Int) (u : Nat) : qf_val Q (zW l p t u) = qf_val Q l + p * t * qf_tch Q l (un u) + (p * p) * (t * t * qf_val Q (un u)) := by
  have k : ∀ (k : Int) (w : V3), qf_val Q (l.1 + k * w.1, l.2.1 + k * w.2.1, l.2.2 + k * w.2.2) = qf_val Q l + k * qf_tch Q l w + (k * k) * qf_val Q w := by
    intro k w
    simp only [qf_val, qf_tch]
    grind
  unfold zW
  rw [k]
  grind
def LN (Q : F6) (p : Nat) (i : Nat) (l : V3) (u : Nat) (t : Nat) : Prop := (lns Q p)[i]? = some l ∧ u < 3 ∧ ¬ (p : Int) ∣ qf_tch Q l (un u) ∧ (∀ k, k < u → (p : Int) ∣ qf_tch Q l (un k)) ∧ t < p ∧ ((p : Int) * p) ∣ qf_val Q (zW l p t u) ∧ ∀ s : Nat, s < t → ¬ ((p : Int) * p) ∣ qf_val Q (zW l p s u)
theorem ptsP_mem {p : Nat} (hp : 2 ≤ p) {v : V3} (h : v ∈ ptsP p) : (v.1 = 1 ∨ v.1 = 0 ∧ (v.2.1 = 1 ∨ v.2.1 = 0 ∧ v.2.2 = 1)) ∧ (0 ≤ v.1 ∧ v.1 ≤ 1) ∧ (0 ≤ v.2.1 ∧ v.2.1 < p) ∧ (0 ≤ v.2.2 ∧ v.2.2 < p) := by
  unfold ptsP pt1 pt2 pt3 at h
  simp only [List.mem_append, List.mem_flatMap, List.mem_map, iv_mem, List.mem_singleton] at h
  rcases h with h | ⟨z, hz, h⟩ | ⟨y, hy, z, hz, h⟩
  · subst h
    dsimp only
    omega
  · subst h
    dsimp only
    omega
  · subst h
    dsimp only
    omega
theorem lns_mem {Q : F6} {p : Nat} {l : V3} (h : l ∈ lns Q p) : l ∈ ptsP p ∧ qf_val Q l % (p : Int) = 0 := by
  unfold lns at h
  have := List.mem_filter.mp h
  exact ⟨this.1, by simpa using this.2⟩
/-- one of the unit rows touches a line by a number that P does not go into -/
theorem ln_u {Q : F6} {p : Nat} (hp : p = 3 ∨ p = 5 ∨ p = 7) (hD : ¬ (p : Int) ∣ qf_disc Q) {l : V3} (h : l ∈ ptsP p) : ¬ (p : Int) ∣ qf_tch Q l (un 0) ∨ ¬ (p : Int) ∣ qf_tch Q l (un 1) ∨ ¬ (p : Int) ∣ qf_tch Q l (un 2) := by
  by_cases h0 : (p : Int) ∣ qf_tch Q l (un 0)
  · by_cases h1 : (p : Int) ∣ qf_tch Q l (un 1)
    · by_cases h2 : (p : Int) ∣ qf_tch Q l (un 2)
      · exfalso
        have hm := (ptsP_mem (by omega) h).1
        obtain ⟨k0, e0⟩ := h0
        obtain ⟨k1, e1⟩ := h1
        obtain ⟨k2, e2⟩ := h2
        obtain ⟨a, b, c, d, e, f⟩ := Q
        obtain ⟨x, y, z⟩ := l
        simp only [un, qf_tch] at e0 e1 e2 hm
        simp only [qf_disc] at hD
        have i1 : 2 * (4 * a * b * c + d * e * f - a * d * d - b * e * e - c * f * f) * x = (p : Int) * ((4 * b * c - d * d) * k0 + (d * e - 2 * c * f) * k1 + (d * f - 2 * b * e) * k2) := by
          simp at e0 e1 e2
          grind
        have i2 : 2 * (4 * a * b * c + d * e * f - a * d * d - b * e * e - c * f * f) * y = (p : Int) * ((d * e - 2 * c * f) * k0 + (4 * a * c - e * e) * k1 + (e * f - 2 * a * d) * k2) := by
          simp at e0 e1 e2
          grind
        have i3 : 2 * (4 * a * b * c + d * e * f - a * d * d - b * e * e - c * f * f) * z = (p : Int) * ((d * f - 2 * b * e) * k0 + (e * f - 2 * a * d) * k1 + (4 * a * b - f * f) * k2) := by
          simp at e0 e1 e2
          grind
        generalize 4 * a * b * c + d * e * f - a * d * d - b * e * e - c * f * f = D at *
        have key : ∀ K : Int, 2 * D = (p : Int) * K → False := by
          intro K hK
          apply hD
          rcases hp with hp | hp | hp <;> subst hp
          · exact ⟨(K / 2), by omega⟩
          · exact ⟨(K / 2), by omega⟩
          · exact ⟨(K / 2), by omega⟩
        rcases hm with hm | ⟨_, hm | ⟨_, hm⟩⟩
        · rw [hm, Int.mul_one] at i1; exact key _ i1
        · rw [hm, Int.mul_one] at i2; exact key _ i2
        · rw [hm, Int.mul_one] at i3; exact key _ i3
      · exact Or.inr (Or.inr h2)
    · exact Or.inr (Or.inl h1)
  · exact Or.inl h0
theorem ln_t {p : Nat} (hp : p = 3 ∨ p = 5 ∨ p = 7) {T m : Int} (hT : ¬ (p : Int) ∣ T) : ∃ t : Nat, t < p ∧ (p : Int) ∣ m + t * T := by
  have k3 : ∀ s : Nat, s < 3 → ∀ t : Nat, t < 3 → s ≠ 0 → ∃ r, r < 3 ∧ (t + r * s) % 3 = 0 := by decide +kernel
  have k5 : ∀ s : Nat, s < 5 → ∀ t : Nat, t < 5 → s ≠ 0 → ∃ r, r < 5 ∧ (t + r * s) % 5 = 0 := by decide +kernel
  have k7 : ∀ s : Nat, s < 7 → ∀ t : Nat, t < 7 → s ≠ 0 → ∃ r, r < 7 ∧ (t + r * s) % 7 = 0 := by decide +kernel
  have fin : ∀ (q r : Nat), 0 < q → ((m % (q : Int)).toNat + r * (T % (q : Int)).toNat) % q = 0 → (q : Int) ∣ m + r * T := by
    intro q r hq h
    have hq' : (q : Int) ≠ 0 := by omega
    have e1 : (((m % (q : Int)).toNat : Nat) : Int) = m % (q : Int) := by have := Int.emod_nonneg m hq'; omega
    have e2 : (((T % (q : Int)).toNat : Nat) : Int) = T % (q : Int) := by have := Int.emod_nonneg T hq'; omega
    have h2 : ((((m % (q : Int)).toNat + r * (T % (q : Int)).toNat) % q : Nat) : Int) = 0 := by rw [h]; rfl
    rw [Int.natCast_emod, Int.natCast_add, Int.natCast_mul, e1, e2] at h2
    apply Int.dvd_of_emod_eq_zero
    rw [Int.add_emod, Int.mul_emod]
    rw [Int.add_emod, Int.mul_emod] at h2
    simpa using h2
  rcases hp with hp | hp | hp <;> subst hp
  · obtain ⟨r, h1, h2⟩ := k3 (T % ((3 : Nat) : Int)).toNat (by omega) (m % ((3 : Nat) : Int)).toNat (by omega) (by omega)
    exact ⟨r, h1, fin 3 r (by decide) h2⟩
  · obtain ⟨r, h1, h2⟩ := k5 (T % ((5 : Nat) : Int)).toNat (by omega) (m % ((5 : Nat) : Int)).toNat (by omega) (by omega)
    exact ⟨r, h1, fin 5 r (by decide) h2⟩
  · obtain ⟨r, h1, h2⟩ := k7 (T % ((7 : Nat) : Int)).toNat (by omega) (m % ((7 : Nat) : Int)).toNat (by omega) (by omega)
    exact ⟨r, h1, fin 7 r (by decide) h2⟩
theorem lns_len_ge {Q : F6} {p : Nat} (hp : p = 3 ∨ p = 5 ∨ p = 7) (hD : ¬ (p : Int) ∣ qf_disc Q) : p + 1 ≤ (lns Q p).length := by
  rcases hp with hp | hp | hp <;> subst hp
  · exact lns3 (fun h => hD (Int.dvd_of_emod_eq_zero h))
  · exact lns5 (fun h => hD (Int.dvd_of_emod_eq_zero h))
  · exact lns7 (fun h => hD (Int.dvd_of_emod_eq_zero h))
theorem LN_ex {Q : F6} {p : Nat} (hp : p = 3 ∨ p = 5 ∨ p = 7) (hD : ¬ (p : Int) ∣ qf_disc Q) {i : Nat} (hi : i ≤ p) : ∃ l u t, LN Q p i l u t := by
  have hl := lns_len_ge hp hD
  have hi' : i < (lns Q p).length := by omega
  obtain ⟨hm, hv⟩ := lns_mem (List.getElem_mem hi')
  have hu := ln_u hp hD hm
  obtain ⟨u, u1, u2⟩ := qf_exmin (fun u => u < 3 ∧ ¬ (p : Int) ∣ qf_tch Q (lns Q p)[i] (un u)) id (by
    rcases hu with h | h | h
    · exact ⟨0, by decide, h⟩
    · exact ⟨1, by decide, h⟩
    · exact ⟨2, by decide, h⟩)
  have hT := u1.2
  obtain ⟨m, hm2⟩ := Int.dvd_of_emod_eq_zero hv
  obtain ⟨t0, t1, k, hk⟩ := ln_t hp (m := m) hT
  obtain ⟨t, w1, w2⟩ := qf_exmin (fun t : Nat => t < p ∧ ((p : Int) * p) ∣ qf_val Q (zW (lns Q p)[i] p t u)) id ⟨t0, t1, by
    rw [zW_val, hm2]
    refine ⟨k + (t0 : Int) * t0 * qf_val Q (un u), ?_⟩
    have : (p : Int) * m + p * t0 * qf_tch Q (lns Q p)[i] (un u) = (p : Int) * (m + t0 * qf_tch Q (lns Q p)[i] (un u)) := by grind
    rw [this, hk]
    grind⟩
  refine ⟨(lns Q p)[i], u, t, List.getElem?_eq_getElem hi', u1.1, u1.2, fun k9 hk9 => ?_, w1.1, w1.2, fun s hs h9 => ?_⟩
  · by_cases g : (p : Int) ∣ qf_tch Q (lns Q p)[i] (un k9)
    · exact g
    · have := u2 k9 ⟨by omega, g⟩
      simp only [id] at this
      omega
  · have := w2 s ⟨by omega, h9⟩
    simp only [id] at this
    omega
theorem LN_eq {Q : F6} {p i : Nat} {l l' : V3} {u u' t t' : Nat} (h : LN Q p i l u t) (h' : LN Q p i l' u' t') : l = l' ∧ u = u' ∧ t = t' := by
  obtain ⟨a1, a2, a3, a4, a5, a6, a7⟩ := h
  obtain ⟨b1, b2, b3, b4, b5, b6, b7⟩ := h'
  rw [a1] at b1
  have e : l = l' := Option.some.inj b1
  subst e
  have eu : u = u' := by
    rcases Nat.lt_trichotomy u u' with g | g | g
    · exact absurd (b4 u g) a3
    · exact g
    · exact absurd (a4 u' g) b3
  subst eu
  refine ⟨rfl, rfl, ?_⟩
  rcases Nat.lt_trichotomy t t' with g | g | g
  · exact absurd a6 (b7 t g)
  · exact g
  · exact absurd b6 (a7 t' g)
