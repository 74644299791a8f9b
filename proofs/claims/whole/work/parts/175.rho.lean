/-! neighbours: the ratio of touches of a line -/
theorem ivm_mod {p : Nat} (hp : p = 3 ∨ p = 5 ∨ p = 7) (x : Int) : ivm p (x % (p : Int)) = ivm p x := by
  unfold ivm
  have k : ∀ c : Int, (c * (x % (p : Int))) % (p : Int) = (c * x) % (p : Int) := fun c => by rw [Int.mul_emod, Int.emod_emod, ← Int.mul_emod]
  simp only [k]
theorem ivm_spec {p : Nat} (hp : p = 3 ∨ p = 5 ∨ p = 7) {x : Int} (hx : ¬ (p : Int) ∣ x) : (ivm p x * x) % (p : Int) = 1 := by
  have h0 : x % (p : Int) ≠ 0 := fun h => hx (Int.dvd_of_emod_eq_zero h)
  have h1 := Int.emod_nonneg x (by omega : (p : Int) ≠ 0)
  have h2 := Int.emod_lt_of_pos x (by omega : (0 : Int) < p)
  have e9 : (ivm p x * x) % (p : Int) = (ivm p (x % (p : Int)) * (x % (p : Int))) % (p : Int) := by rw [ivm_mod hp x, Int.mul_emod (ivm p x) (x % (p : Int)), Int.emod_emod, ← Int.mul_emod]
  rw [e9]
  clear e9 hx
  generalize x % (p : Int) = r at *
  rcases hp with e | e | e <;> subst e
  · have : r = 1 ∨ r = 2 := by omega
    rcases this with e | e <;> subst e <;> decide
  · have : r = 1 ∨ r = 2 ∨ r = 3 ∨ r = 4 := by omega
    rcases this with e | e | e | e <;> subst e <;> decide
  · have : r = 1 ∨ r = 2 ∨ r = 3 ∨ r = 4 ∨ r = 5 ∨ r = 6 := by omega
    rcases this with e | e | e | e | e | e <;> subst e <;> decide
theorem ptsP_iff {p : Nat} {v : V3} : v ∈ ptsP p ↔ (v.1 = 0 ∧ v.2.1 = 0 ∧ v.2.2 = 1) ∨ (v.1 = 0 ∧ v.2.1 = 1 ∧ 0 ≤ v.2.2 ∧ v.2.2 < p) ∨ (v.1 = 1 ∧ (0 ≤ v.2.1 ∧ v.2.1 < p) ∧ 0 ≤ v.2.2 ∧ v.2.2 < p) := by
  unfold ptsP pt1 pt2 pt3
  simp only [List.mem_append, List.mem_flatMap, List.mem_map, iv_mem, List.mem_singleton]
  obtain ⟨x, y, z⟩ := v
  simp only [Prod.mk.injEq]
  constructor
  · rintro (h | ⟨a, ha, h⟩ | ⟨b, hb, a, ha, h⟩)
    · exact Or.inl h
    · exact Or.inr (Or.inl (by omega))
    · exact Or.inr (Or.inr (by omega))
  · rintro (h | h | h)
    · exact Or.inl h
    · exact Or.inr (Or.inl ⟨z, by omega, by omega⟩)
    · exact Or.inr (Or.inr ⟨y, by omega, z, by omega, by omega⟩)
theorem zW_tch (Q : F6) (l : V3) (p t : Int) (u : Nat) (v : V3) : qf_tch Q (zW l p t u) v = qf_tch Q l v + p * (t * qf_tch Q (un u) v) := by
  unfold zW
  generalize un u = e
  simp only [qf_tch]
  grind
def rhoT (Q : F6) (p : Nat) (w : V3) (u : Nat) : V3 := ((qf_tch Q w (un 0) * ivm p (qf_tch Q w (un u))) % (p : Int), (qf_tch Q w (un 1) * ivm p (qf_tch Q w (un u))) % (p : Int), (qf_tch Q w (un 2) * ivm p (qf_tch Q w (un u))) % (p : Int))
theorem rho_of {Q : F6} {p i u t : Nat} (hp : p = 3 ∨ p = 5 ∨ p = 7) {l : V3} (h : LN Q p i l u t) : rhoT Q p (zW l p t u) u ∈ ptsP p ∧ fstN (rhoT Q p (zW l p t u) u) = u ∧ dot l (rhoT Q p (zW l p t u) u) % (p : Int) = 0 ∧ (p : Int) ∣ qf_tch Q (zW l p t u) (un 0) - qf_tch Q (zW l p t u) (un u) * (rhoT Q p (zW l p t u) u).1 ∧ (p : Int) ∣ qf_tch Q (zW l p t u) (un 1) - qf_tch Q (zW l p t u) (un u) * (rhoT Q p (zW l p t u) u).2.1 ∧ (p : Int) ∣ qf_tch Q (zW l p t u) (un 2) - qf_tch Q (zW l p t u) (un u) * (rhoT Q p (zW l p t u) u).2.2 := by
  obtain ⟨a1, a2, a3, a4, a5, a6', a7⟩ := h
  have hlm := lns_mem (List.mem_of_getElem? a1)
  have hp0 : (0 : Int) < p := by omega
  have hwT : ∀ k, ∃ n, qf_tch Q (zW l p t u) (un k) = qf_tch Q l (un k) + (p : Int) * n := fun k => ⟨_, zW_tch Q l p t u (un k)⟩
  have hu : ¬ (p : Int) ∣ qf_tch Q (zW l p t u) (un u) := by
    obtain ⟨n, e⟩ := hwT u
    rw [e]
    intro hd
    apply a3
    have := Int.dvd_sub hd (Int.dvd_mul_right (p : Int) n)
    have e2 : qf_tch Q l (un u) + (p : Int) * n - (p : Int) * n = qf_tch Q l (un u) := by omega
    rw [e2] at this
    exact this
  have hk : ∀ k, k < u → (p : Int) ∣ qf_tch Q (zW l p t u) (un k) := by
    intro k hk
    obtain ⟨n, e⟩ := hwT k
    rw [e]
    exact Int.dvd_add (a4 k hk) (Int.dvd_mul_right _ _)
  have hl2 : (p : Int) ∣ qf_tch Q (zW l p t u) l := by
    rw [zW_tch]
    refine Int.dvd_add ?_ (Int.dvd_mul_right _ _)
    obtain ⟨m, hm⟩ := Int.dvd_of_emod_eq_zero hlm.2
    exact ⟨2 * m, by have e : qf_tch Q l l = 2 * qf_val Q l := by simp only [qf_tch, qf_val]; grind
                     rw [e, hm]; grind⟩
  have hdt := dot_tch Q (zW l p t u) l
  have hiv := ivm_spec hp hu
  unfold rhoT
  generalize ivm p (qf_tch Q (zW l p t u) (un u)) = g at *
  have hT0 := hk 0
  have hT1 := hk 1
  have key : ∀ T : Int, (p : Int) ∣ T - qf_tch Q (zW l p t u) (un u) * ((T * g) % (p : Int)) := by
    intro T
    have e1 := Int.emod_add_mul_ediv (T * g) (p : Int)
    have e2 := Int.emod_add_mul_ediv (g * qf_tch Q (zW l p t u) (un u)) (p : Int)
    rw [hiv] at e2
    generalize qf_tch Q (zW l p t u) (un u) = Tu at *
    generalize (T * g) / (p : Int) = n1 at *
    generalize (g * Tu) / (p : Int) = n2 at *
    exact ⟨Tu * n1 - T * n2, by grind⟩
  have hz : ∀ T : Int, (p : Int) ∣ T → (T * g) % (p : Int) = 0 := fun T hT => Int.emod_eq_zero_of_dvd (Int.dvd_mul_of_dvd_left hT)
  have hone : (qf_tch Q (zW l p t u) (un u) * g) % (p : Int) = 1 := by rw [Int.mul_comm]; exact hiv
  have rng : ∀ T : Int, 0 ≤ (T * g) % (p : Int) ∧ (T * g) % (p : Int) < p := fun T => ⟨Int.emod_nonneg _ (by omega), Int.emod_lt_of_pos _ hp0⟩
  refine ⟨?_, ?_, ?_, key _, key _, key _⟩
  · rw [ptsP_iff]
    dsimp only
    have : u = 0 ∨ u = 1 ∨ u = 2 := by omega
    rcases this with e | e | e
    · subst e
      right; right
      exact ⟨hone, rng _, rng _⟩
    · subst e
      right; left
      exact ⟨hz _ (hT0 (by decide)), hone, rng _⟩
    · subst e
      left
      exact ⟨hz _ (hT0 (by decide)), hz _ (hT1 (by decide)), hone⟩
  · unfold fstN
    dsimp only
    have : u = 0 ∨ u = 1 ∨ u = 2 := by omega
    rcases this with e | e | e
    · subst e
      rw [if_pos (by rw [hone]; decide)]
    · subst e
      rw [if_neg (by rw [hz _ (hT0 (by decide))]; decide), if_pos (by rw [hone]; decide)]
    · subst e
      rw [if_neg (by rw [hz _ (hT0 (by decide))]; decide), if_neg (by rw [hz _ (hT1 (by decide))]; decide)]
  · unfold dot
    dsimp only
    apply Int.emod_eq_zero_of_dvd
    rw [hdt] at hl2
    obtain ⟨m, hm⟩ := hl2
    have e0 := Int.emod_add_mul_ediv (qf_tch Q (zW l p t u) (un 0) * g) (p : Int)
    have e1 := Int.emod_add_mul_ediv (qf_tch Q (zW l p t u) (un 1) * g) (p : Int)
    have e2 := Int.emod_add_mul_ediv (qf_tch Q (zW l p t u) (un 2) * g) (p : Int)
    generalize qf_tch Q (zW l p t u) (un 0) = T0 at *
    generalize qf_tch Q (zW l p t u) (un 1) = T1 at *
    generalize qf_tch Q (zW l p t u) (un 2) = T2 at *
    generalize (T0 * g) % (p : Int) = r0 at *
    generalize (T1 * g) % (p : Int) = r1 at *
    generalize (T2 * g) % (p : Int) = r2 at *
    generalize (T0 * g) / (p : Int) = n0 at *
    generalize (T1 * g) / (p : Int) = n1 at *
    generalize (T2 * g) / (p : Int) = n2 at *
    exact ⟨m * g - (l.1 * n0 + l.2.1 * n1 + l.2.2 * n2), by grind⟩
theorem ck_all {p : Nat} (hp : p = 3 ∨ p = 5 ∨ p = 7) {l rho : V3} (hl : l ∈ ptsP p) (hr : rho ∈ ptsP p) (hd : dot l rho % (p : Int) = 0) {t : Nat} (ht : t < p) : ck1 p (fstN rho) rho (zW l p t (fstN rho)) = true := by
  have h : (ptsP p).all (ckL p) = true := by
    rcases hp with e | e | e <;> subst e
    · exact ckA3
    · exact ckA5
    · exact ckA7
  rw [List.all_eq_true] at h
  have h1 := h l hl
  unfold ckL at h1
  rw [List.all_eq_true] at h1
  have h2 := h1 rho hr
  simp only [hd, decide_true, Bool.not_true, Bool.false_or] at h2
  rw [List.all_eq_true] at h2
  exact h2 t (List.mem_range.mpr ht)
/-- both forms of the neighbour across a line are turned into each other -/
theorem nb_both {Q : F6} {p i u t : Nat} (hp : p = 3 ∨ p = 5 ∨ p = 7) {l : V3} (h : LN Q p i l u t) : ∃ R U, nbR p (rhoT Q p (zW l p t u) u) (zW l p t u) = some R ∧ qf_gl U ∧ qf_trn Q (R 0, R 1, R 2) = sc6 ((p : Int) * p) (qf_trn (crs Q p (nbC p u (nbV p u (zW l p t u)) (rhoT Q p (zW l p t u) u) (zW l p t u))) U) ∧ qf_trn Q (scT p (nbC p u (nbV p u (zW l p t u)) (rhoT Q p (zW l p t u) u) (zW l p t u))) = sc6 ((p : Int) * p) (crs Q p (nbC p u (nbV p u (zW l p t u)) (rhoT Q p (zW l p t u) u) (zW l p t u))) ∧ (v60 (nbC p u (nbV p u (zW l p t u)) (rhoT Q p (zW l p t u) u) (zW l p t u)).1 ∧ v60 (nbC p u (nbV p u (zW l p t u)) (rhoT Q p (zW l p t u) u) (zW l p t u)).2.1 ∧ v60 (nbC p u (nbV p u (zW l p t u)) (rhoT Q p (zW l p t u) u) (zW l p t u)).2.2) ∧ (smw (R 0) = true ∧ smw (R 1) = true ∧ smw (R 2) = true) := by
  obtain ⟨r1, r2, r3, r4, r5, r6⟩ := rho_of hp h
  obtain ⟨a1, a2, a3, a4, a5, a6', a7⟩ := h
  have hlm := lns_mem (List.mem_of_getElem? a1)
  have hck := ck_all hp hlm.1 r1 r3 a5
  rw [r2] at hck
  exact ck1_of (by omega) r4 r5 r6 a6' hck
