/-! neighbours: the reference's findNeighbour whole -/
def rtb (p : Nat) : Bool := (List.range p).all (fun c => (List.range p).all (fun a => (List.range p).all (fun b => decide (c = 0) || (decide (((c : Int) * (a : Int)) % (p : Int) = 0) == decide (a = 0) && (decide (b = 0) || decide (((((c : Int) * (a : Int)) % (p : Int)) * ivm p (((c : Int) * (b : Int)) % (p : Int))) % (p : Int) = ((a : Int) * ivm p (b : Int)) % (p : Int)))))))
theorem rtb_all {p : Nat} (hp : p = 3 ∨ p = 5 ∨ p = 7) : rtb p = true := by
  rcases hp with e | e | e <;> subst e <;> decide +kernel
theorem rt_all (p : Nat) (hp : p = 3 ∨ p = 5 ∨ p = 7) (c : Nat) (hc : c < p) (a : Nat) (ha : a < p) (c0 : c ≠ 0) : (((c : Int) * (a : Int)) % (p : Int) = 0 ↔ a = 0) ∧ ∀ b : Nat, b < p → b ≠ 0 → ((((c : Int) * (a : Int)) % (p : Int)) * ivm p (((c : Int) * (b : Int)) % (p : Int))) % (p : Int) = ((a : Int) * ivm p (b : Int)) % (p : Int) := by
  have h := rtb_all hp
  unfold rtb at h
  rw [List.all_eq_true] at h
  have h1 := h c (List.mem_range.mpr hc)
  rw [List.all_eq_true] at h1
  have h2 := h1 a (List.mem_range.mpr ha)
  rw [List.all_eq_true] at h2
  have h3 : ∀ b, b < p → (((c : Int) * (a : Int)) % (p : Int) = 0 ↔ a = 0) ∧ (b ≠ 0 → ((((c : Int) * (a : Int)) % (p : Int)) * ivm p (((c : Int) * (b : Int)) % (p : Int))) % (p : Int) = ((a : Int) * ivm p (b : Int)) % (p : Int)) := by
    intro b hb
    have h4 := h2 b (List.mem_range.mpr hb)
    simp only [Bool.or_eq_true, Bool.and_eq_true, decide_eq_true_eq, beq_iff_eq, decide_eq_decide] at h4
    rcases h4 with g | ⟨g1, g2⟩
    · exact absurd g c0
    · refine ⟨g1, fun b0 => ?_⟩
      rcases g2 with g | g
      · exact absurd g b0
      · exact g
  exact ⟨(h3 0 (by omega)).1, fun b hb => (h3 b hb).2⟩
theorem rt_one {p : Nat} (hp : p = 3 ∨ p = 5 ∨ p = 7) {T Tu r : Int} (h : (p : Int) ∣ T - Tu * r) : T % (p : Int) = ((Tu % (p : Int)) * r) % (p : Int) := by
  obtain ⟨m, hm⟩ := h
  have e := Int.emod_add_mul_ediv Tu (p : Int)
  generalize Tu / (p : Int) = n at *
  generalize Tu % (p : Int) = c at *
  have e2 : T = c * r + (p : Int) * (m + n * r) := by
    have : T = Tu * r + (p : Int) * m := by omega
    rw [this, ← e]
    grind
  rw [e2, Int.add_mul_emod_self_left]
theorem rt_col {Q : F6} {p u : Nat} {w : V3} (hp : p = 3 ∨ p = 5 ∨ p = 7) (hu : ¬ (p : Int) ∣ qf_tch Q w (un u)) (h0 : (p : Int) ∣ qf_tch Q w (un 0) - qf_tch Q w (un u) * (rhoT Q p w u).1) (h1 : (p : Int) ∣ qf_tch Q w (un 1) - qf_tch Q w (un u) * (rhoT Q p w u).2.1) (h2 : (p : Int) ∣ qf_tch Q w (un 2) - qf_tch Q w (un u) * (rhoT Q p w u).2.2) (hr : rhoT Q p w u ∈ ptsP p) : lstN (tmV Q p w) = lstN (rhoT Q p w u) ∧ (∀ k, 0 ≤ col k (tmV Q p w) ∧ col k (tmV Q p w) < p) ∧ ¬ (p : Int) ∣ col (lstN (rhoT Q p w u)) (tmV Q p w) ∧ ∀ k, (col k (tmV Q p w) * ivm p (col (lstN (rhoT Q p w u)) (tmV Q p w))) % (p : Int) = (col k (rhoT Q p w u) * ivm p (col (lstN (rhoT Q p w u)) (rhoT Q p w u))) % (p : Int) := by
  have hp1 : (0 : Int) < p := by omega
  have hc := ptsP_col hp hr
  have hne : ∃ k, k < 3 ∧ col k (rhoT Q p w u) ≠ 0 := by
    rw [ptsP_iff] at hr
    unfold col
    rcases hr with g | g | g
    · exact ⟨2, by decide, by simp; omega⟩
    · exact ⟨1, by decide, by simp; omega⟩
    · exact ⟨0, by decide, by simp; omega⟩
  have k0 := rt_one hp h0
  have k1 := rt_one hp h1
  have k2 := rt_one hp h2
  have hcu1 := Int.emod_nonneg (qf_tch Q w (un u)) (show (p : Int) ≠ 0 by omega)
  have hcu2 := Int.emod_lt_of_pos (qf_tch Q w (un u)) hp1
  have hcu3 : qf_tch Q w (un u) % (p : Int) ≠ 0 := fun g => hu (Int.dvd_of_emod_eq_zero g)
  have hk : ∀ k, col k (tmV Q p w) = ((qf_tch Q w (un u) % (p : Int)) * col k (rhoT Q p w u)) % (p : Int) := by
    intro k
    unfold tmV col
    split
    · exact k0
    · split
      · exact k1
      · exact k2
  have hb : ∀ k, 0 ≤ col k (tmV Q p w) ∧ col k (tmV Q p w) < p := fun k => by rw [hk]; exact ⟨Int.emod_nonneg _ (by omega), Int.emod_lt_of_pos _ hp1⟩
  obtain ⟨c, hcc⟩ := Int.eq_ofNat_of_zero_le hcu1
  rw [hcc] at hk hcu2 hcu3
  have key := rt_all p hp c (by omega) 
  have hz : ∀ k, col k (tmV Q p w) = 0 ↔ col k (rhoT Q p w u) = 0 := by
    intro k
    obtain ⟨a, ha⟩ := Int.eq_ofNat_of_zero_le (hc k).1
    have hck := hc k
    rw [hk, ha]
    rw [ha] at hck
    rw [(key a (by omega) (by omega)).1]
    omega
  have e : lstN (tmV Q p w) = lstN (rhoT Q p w u) := by
    have z1 : (tmV Q p w).2.1 = 0 ↔ (rhoT Q p w u).2.1 = 0 := hz 1
    have z2 : (tmV Q p w).2.2 = 0 ↔ (rhoT Q p w u).2.2 = 0 := hz 2
    unfold lstN
    by_cases g2 : (rhoT Q p w u).2.2 = 0
    · by_cases g1 : (rhoT Q p w u).2.1 = 0
      · rw [if_neg (fun h => h (z2.mpr g2)), if_neg (fun h => h (z1.mpr g1)), if_neg (fun h => h g2), if_neg (fun h => h g1)]
      · rw [if_neg (fun h => h (z2.mpr g2)), if_pos (fun h => g1 (z1.mp h)), if_neg (fun h => h g2), if_pos g1]
    · rw [if_pos (fun h => g2 (z2.mp h)), if_pos g2]
  have hl : col (lstN (rhoT Q p w u)) (rhoT Q p w u) ≠ 0 := by
    obtain ⟨k, hk3, hkn⟩ := hne
    unfold lstN
    unfold col at hkn ⊢
    have : k = 0 ∨ k = 1 ∨ k = 2 := by omega
    by_cases g2 : (rhoT Q p w u).2.2 ≠ 0
    · rw [if_pos g2]; exact g2
    · rw [if_neg g2]
      by_cases g1 : (rhoT Q p w u).2.1 ≠ 0
      · rw [if_pos g1]; exact g1
      · rw [if_neg g1]
        rcases this with e | e | e <;> subst e
        · exact hkn
        · exact absurd hkn g1
        · exact absurd hkn g2
  refine ⟨e, hb, ?_, ?_⟩
  · intro hd
    have b := hb (lstN (rhoT Q p w u))
    have : col (lstN (rhoT Q p w u)) (tmV Q p w) = 0 := by
      have := Int.emod_eq_zero_of_dvd hd
      rw [Int.emod_eq_of_lt b.1 b.2] at this
      exact this
    exact hl ((hz _).mp this)
  · intro k
    obtain ⟨a, ha⟩ := Int.eq_ofNat_of_zero_le (hc k).1
    obtain ⟨b, hb'⟩ := Int.eq_ofNat_of_zero_le (hc (lstN (rhoT Q p w u))).1
    have c1 := hc k
    have c2 := hc (lstN (rhoT Q p w u))
    rw [hk, hk, ha, hb']
    rw [ha] at c1
    rw [hb'] at c2 hl
    exact (key a (by omega) (by omega)).2 b (by omega) (by omega)
theorem kv_mkr {p r s : Nat} {rho : V3} {Xr g : Int} (hs : lstN rho = s) (hr : r < 3) (hs3 : s < 3) (he : (Xr * g) % (p : Int) = (col r rho * ivm p (col s rho)) % (p : Int)) : kvR p r s Xr g = mkr p rho r := by
  unfold kvR kv mkr
  rw [hs, he]
  generalize (col r rho * ivm p (col s rho)) % (p : Int) = y
  have h1 : r = 0 ∨ r = 1 ∨ r = 2 := by omega
  have h2 : s = 0 ∨ s = 1 ∨ s = 2 := by omega
  rcases h1 with e | e | e <;> subst e <;> rcases h2 with e | e | e <;> subst e <;> simp
theorem bd3_s {α β γ δ : Type} (x : α) (y : β) (z : γ) (f : α → β → γ → Option δ) : bd3 (some (x, y, z)) f = f x y z := rfl
theorem up3v_at (m : Nat → Int64) (i : Nat) (v : V3) : avl (up3v m i v) i v := up3_at m i v
theorem up3v_ne (m : Nat → Int64) (i : Nat) (v w : V3) {k : Nat} (h : k + 2 < i ∨ i + 2 < k) (ha : avl m k w) : avl (up3v m i v) k w := by
  obtain ⟨a, b, c⟩ := ha
  unfold up3v
  exact ⟨(up3_ne _ _ _ _ _ (by omega)).trans a, (up3_ne _ _ _ _ _ (by omega)).trans b, (up3_ne _ _ _ _ _ (by omega)).trans c⟩
theorem sm4_b {v : V3} (h : smw v = true) : (-1000 ≤ v.1 ∧ v.1 ≤ 1000) ∧ (-1000 ≤ v.2.1 ∧ v.2.1 ≤ 1000) ∧ (-1000 ≤ v.2.2 ∧ v.2.2 ≤ 1000) := by
  simp only [smw, Bool.and_eq_true, decide_eq_true_eq] at h
  exact ⟨ab_le h.1.1, ab_le h.1.2, ab_le h.2⟩
theorem qs_val4 {Q : F6} (hq : qs_ Q) {v : V3} (hv : smw v = true) : -41472000000 ≤ qf_val Q v ∧ qf_val Q v ≤ 41472000000 := by
  obtain ⟨h1, h2, h3⟩ := sm4_b hv
  obtain ⟨q1, q2, q3, q4, q5, q6⟩ := hq
  unfold qf_val
  have t1 := bd_mul (bd_mul q1 h1) h1
  have t2 := bd_mul (bd_mul q2 h2) h2
  have t3 := bd_mul (bd_mul q3 h3) h3
  have t4 := bd_mul (bd_mul q4 h2) h3
  have t5 := bd_mul (bd_mul q5 h1) h3
  have t6 := bd_mul (bd_mul q6 h1) h2
  omega
theorem qs_tch4 {Q : F6} (hq : qs_ Q) {v w : V3} (hv : smw v = true) (hw : smw w = true) : -100000000000 ≤ qf_tch Q v w ∧ qf_tch Q v w ≤ 100000000000 := by
  obtain ⟨h1, h2, h3⟩ := sm4_b hv
  obtain ⟨g1, g2, g3⟩ := sm4_b hw
  obtain ⟨q1, q2, q3, q4, q5, q6⟩ := hq
  unfold qf_tch
  have t1 := bd_mul (bd_mul (bd_mul (a := 2) (A := 2) (by omega) q1) h1) g1
  have t2 := bd_mul (bd_mul (bd_mul (a := 2) (A := 2) (by omega) q2) h2) g2
  have t3 := bd_mul (bd_mul (bd_mul (a := 2) (A := 2) (by omega) q3) h3) g3
  have s4 : -(1000 * 1000 + 1000 * 1000) ≤ v.2.1 * w.2.2 + v.2.2 * w.2.1 ∧ v.2.1 * w.2.2 + v.2.2 * w.2.1 ≤ 1000 * 1000 + 1000 * 1000 := by
    have a := bd_mul h2 g3
    have b := bd_mul h3 g2
    omega
  have s5 : -(1000 * 1000 + 1000 * 1000) ≤ v.1 * w.2.2 + v.2.2 * w.1 ∧ v.1 * w.2.2 + v.2.2 * w.1 ≤ 1000 * 1000 + 1000 * 1000 := by
    have a := bd_mul h1 g3
    have b := bd_mul h3 g1
    omega
  have s6 : -(1000 * 1000 + 1000 * 1000) ≤ v.1 * w.2.1 + v.2.1 * w.1 ∧ v.1 * w.2.1 + v.2.1 * w.1 ≤ 1000 * 1000 + 1000 * 1000 := by
    have a := bd_mul h1 g2
    have b := bd_mul h2 g1
    omega
  have t4 := bd_mul q4 s4
  have t5 := bd_mul q5 s5
  have t6 := bd_mul q6 s6
  omega
/-- the form across a line, not yet the least -/
def crsL (Q : F6) (p : Nat) (l : V3) (u t : Nat) : F6 := crs Q p (nbC p u (nbV p u (zW l p t u)) (rhoT Q p (zW l p t u) u) (zW l p t u))
theorem crsL_all {Q : F6} {p i u t : Nat} (hp : p = 3 ∨ p = 5 ∨ p = 7) {l : V3} (h : LN Q p i l u t) (hQ : qf_pd Q) (hq : qs_ Q) : qf_pd (crsL Q p l u t) ∧ qf_disc (crsL Q p l u t) = qf_disc Q ∧ (crsL Q p l u t).1 ≤ 400000 ∧ (crsL Q p l u t).2.1 ≤ 400000 ∧ (crsL Q p l u t).2.2.1 ≤ 400000 ∧ qf_sum (crsL Q p l u t) ≤ 999000 := by
  have hu := h.2.1
  obtain ⟨hv1, hv2⟩ := nbV_lt (p := p) hu (zW l p t u)
  have hr := (rho_of hp h).1
  obtain ⟨R, U, e1, e2, e3, e4, e5, e6⟩ := nb_both hp h
  have hd := nbC_det (p := p) hu hv1 hv2 (rhoT Q p (zW l p t u) u) (zW l p t u)
  exact ⟨crs_pd (by omega) hQ e4 hd, crs_disc (by omega) e4 hd, nbC_bd hq hp hu hv1 hv2 (ptsP_col hp hr)⟩
/-- the neighbour's least form and how many tables lead there -/
def NB (Q : F6) (p i : Nat) (L : F6) (n : Nat) : Prop := ∃ l u t T, LN Q p i l u t ∧ qf_least (crsL Q p l u t) L T n
theorem NB_eq {Q : F6} {p i : Nat} {L L' : F6} {n n' : Nat} (h : NB Q p i L n) (h' : NB Q p i L' n') : L = L' ∧ n = n' := by
  obtain ⟨l, u, t, T, a, b⟩ := h
  obtain ⟨l', u', t', T', a', b'⟩ := h'
  obtain ⟨e1, e2, e3⟩ := LN_eq a a'
  subst e1; subst e2; subst e3
  obtain ⟨f1, f2, f3⟩ := qf_least_eq b b'
  exact ⟨f1, f3⟩
theorem NB_S {Q : F6} {p i : Nat} {L : F6} {n : Nat} (hp : p = 3 ∨ p = 5 ∨ p = 7) (hQ : qf_pd Q) (hq : qs_ Q) (h : NB Q p i L n) : qr_S L ∧ qf_pd L ∧ qf_disc L = qf_disc Q ∧ n ∣ 48 ∧ 0 < n := by
  obtain ⟨l, u, t, T, a, b⟩ := h
  obtain ⟨c1, c2, _⟩ := crsL_all hp a hQ hq
  obtain ⟨d1, d2, d3, d4, _⟩ := least_S c1 b
  exact ⟨d1, d2, d3.trans c2, least_48 c1 b⟩
