/-! neighbours: the forms of both bases -/
def sc6 (k : Int) (C : F6) : F6 := (k * C.1, k * C.2.1, k * C.2.2.1, k * C.2.2.2.1, k * C.2.2.2.2.1, k * C.2.2.2.2.2)
theorem sc6_trn (k : Int) (C : F6) (U : T9) : qf_trn (sc6 k C) U = sc6 k (qf_trn C U) := by
  simp only [qf_trn, sc6, qf_val, qf_tch, Prod.mk.injEq]
  refine ⟨?_, ?_, ?_, ?_, ?_, ?_⟩ <;> grind
theorem sc6_disc (k : Int) (C : F6) : qf_disc (sc6 k C) = k * k * k * qf_disc C := by
  simp only [qf_disc, sc6]
  grind
theorem sc6_val (k : Int) (C : F6) (v : V3) : qf_val (sc6 k C) v = k * qf_val C v := by
  simp only [qf_val, sc6]
  grind
/-- the form on a basis whose first row is told P times -/
def crs (Q : F6) (p : Int) (B : T9) : F6 := (qf_val Q B.1 / (p * p), qf_val Q B.2.1, qf_val Q B.2.2, qf_tch Q B.2.1 B.2.2, qf_tch Q B.1 B.2.2 / p, qf_tch Q B.1 B.2.1 / p)
theorem crs_sc {Q : F6} {p : Int} (hp : p ≠ 0) {B : T9} (h1 : p * p ∣ qf_val Q B.1) (h2 : p ∣ qf_tch Q B.1 B.2.1) (h3 : p ∣ qf_tch Q B.1 B.2.2) : qf_trn Q (scT p B) = sc6 (p * p) (crs Q p B) := by
  obtain ⟨x, ex⟩ := h1
  obtain ⟨y, ey⟩ := h2
  obtain ⟨z, ez⟩ := h3
  have hpp : p * p ≠ 0 := Int.mul_ne_zero hp hp
  have d1 : qf_val Q B.1 / (p * p) = x := by rw [ex]; exact Int.mul_ediv_cancel_left _ hpp
  have d2 : qf_tch Q B.1 B.2.1 / p = y := by rw [ey]; exact Int.mul_ediv_cancel_left _ hp
  have d3 : qf_tch Q B.1 B.2.2 / p = z := by rw [ez]; exact Int.mul_ediv_cancel_left _ hp
  have s1 : ∀ v : V3, qf_val Q (qf_sc p v) = p * p * qf_val Q v := fun v => by simp only [qf_val, qf_sc]; grind
  have s2 : ∀ v w : V3, qf_tch Q (qf_sc p v) (qf_sc p w) = p * p * qf_tch Q v w := fun v w => by simp only [qf_tch, qf_sc]; grind
  have s3 : ∀ v w : V3, qf_tch Q v (qf_sc p w) = p * qf_tch Q v w := fun v w => by simp only [qf_tch, qf_sc]; grind
  simp only [qf_trn, scT, sc6, crs, d1, d2, d3, s1, s2, s3, Prod.mk.injEq]
  refine ⟨ex, trivial, trivial, trivial, ?_, ?_⟩
  · rw [ez]; grind
  · rw [ey]; grind
theorem dot_tch (Q : F6) (w v : V3) : qf_tch Q w v = v.1 * qf_tch Q w (un 0) + v.2.1 * qf_tch Q w (un 1) + v.2.2 * qf_tch Q w (un 2) := by
  simp only [qf_tch, un]
  grind
/-- touches with w are those with rho, times a number, by p -/
theorem tw_rho {Q : F6} {p s : Int} {w rho : V3} (h0 : p ∣ qf_tch Q w (un 0) - s * rho.1) (h1 : p ∣ qf_tch Q w (un 1) - s * rho.2.1) (h2 : p ∣ qf_tch Q w (un 2) - s * rho.2.2) {v : V3} (hv : dot rho v % p = 0) : p ∣ qf_tch Q w v := by
  obtain ⟨a, ea⟩ := h0
  obtain ⟨b, eb⟩ := h1
  obtain ⟨c, ec⟩ := h2
  obtain ⟨d, ed⟩ := Int.dvd_of_emod_eq_zero hv
  rw [dot_tch]
  unfold dot at ed
  exact ⟨v.1 * a + v.2.1 * b + v.2.2 * c + s * d, by grind⟩
theorem nb_div {Q : F6} {p : Nat} (hp0 : (p : Int) ≠ 0) {s : Int} {w rho : V3} (h0 : (p : Int) ∣ qf_tch Q w (un 0) - s * rho.1) (h1 : (p : Int) ∣ qf_tch Q w (un 1) - s * rho.2.1) (h2 : (p : Int) ∣ qf_tch Q w (un 2) - s * rho.2.2) (hV : ((p : Int) * p) ∣ qf_val Q w) {u v : Nat} {B : T9} (hB : ckB p u v rho w B = true) : ((p : Int) * p ∣ qf_val Q B.1) ∧ ((p : Int) ∣ qf_tch Q B.1 B.2.1) ∧ ((p : Int) ∣ qf_tch Q B.1 B.2.2) ∧ v60 B.1 ∧ v60 B.2.1 ∧ v60 B.2.2 := by
  unfold ckB at hB
  simp only [Bool.and_eq_true, decide_eq_true_eq] at hB
  obtain ⟨⟨⟨⟨⟨⟨⟨b1, b2⟩, b3⟩, d1⟩, d2⟩, _⟩, e1⟩, d3⟩ := hB
  have vb : ∀ v : V3, v6b v = true → v60 v := by
    intro v hv
    unfold v6b at hv
    simp only [Bool.and_eq_true, decide_eq_true_eq] at hv
    exact ⟨ab_le hv.1.1, ab_le hv.1.2, ab_le hv.2⟩
  have t1 := tw_rho h0 h1 h2 d1
  have t2 := tw_rho h0 h1 h2 d2
  have t3 := tw_rho h0 h1 h2 d3
  generalize ivm p (col v w % (p : Int)) = tau at *
  generalize dvV (vsub B.1 w tau) (p : Int) = r0 at *
  have e2 : B.1 = (tau * w.1 + (p : Int) * r0.1, tau * w.2.1 + (p : Int) * r0.2.1, tau * w.2.2 + (p : Int) * r0.2.2) := by
    have k1 := congrArg (fun x : V3 => x.1) e1
    have k2 := congrArg (fun x : V3 => x.2.1) e1
    have k3 := congrArg (fun x : V3 => x.2.2) e1
    simp only [qf_sc, vsub] at k1 k2 k3
    refine Prod.ext ?_ (Prod.ext ?_ ?_)
    · dsimp only; omega
    · dsimp only; omega
    · dsimp only; omega
  have hval : qf_val Q B.1 = tau * tau * qf_val Q w + tau * (p : Int) * qf_tch Q w r0 + (p : Int) * p * qf_val Q r0 := by
    rw [e2]
    simp only [qf_val, qf_tch]
    grind
  have htch : ∀ x : V3, qf_tch Q B.1 x = tau * qf_tch Q w x + (p : Int) * qf_tch Q r0 x := by
    intro x
    rw [e2]
    simp only [qf_tch]
    grind
  obtain ⟨k1, f1⟩ := hV
  obtain ⟨k2, f2⟩ := t1
  obtain ⟨k3, f3⟩ := t2
  obtain ⟨k4, f4⟩ := t3
  refine ⟨⟨tau * tau * k1 + tau * k4 + qf_val Q r0, ?_⟩, ⟨tau * k2 + qf_tch Q r0 B.2.1, ?_⟩, ⟨tau * k3 + qf_tch Q r0 B.2.2, ?_⟩, vb _ b1, vb _ b2, vb _ b3⟩
  · rw [hval, f1, f4]; grind
  · rw [htch, f2]; grind
  · rw [htch, f3]; grind
/-- what the check says of one case: both forms are turned into each other by a table -/
theorem ck1_of {Q : F6} {p u : Nat} (hp0 : (p : Int) ≠ 0) {s : Int} {w rho : V3} (h0 : (p : Int) ∣ qf_tch Q w (un 0) - s * rho.1) (h1 : (p : Int) ∣ qf_tch Q w (un 1) - s * rho.2.1) (h2 : (p : Int) ∣ qf_tch Q w (un 2) - s * rho.2.2) (hV : ((p : Int) * p) ∣ qf_val Q w) (h : ck1 p u rho w = true) : ∃ R U, nbR p rho w = some R ∧ qf_gl U ∧ qf_trn Q (R 0, R 1, R 2) = sc6 ((p : Int) * p) (qf_trn (crs Q p (nbC p u (nbV p u w) rho w)) U) ∧ qf_trn Q (scT p (nbC p u (nbV p u w) rho w)) = sc6 ((p : Int) * p) (crs Q p (nbC p u (nbV p u w) rho w)) ∧ (v60 (nbC p u (nbV p u w) rho w).1 ∧ v60 (nbC p u (nbV p u w) rho w).2.1 ∧ v60 (nbC p u (nbV p u w) rho w).2.2) ∧ (smw (R 0) = true ∧ smw (R 1) = true ∧ smw (R 2) = true) := by
  unfold ck1 at h
  cases hR : nbR p rho w with
  | none => rw [hR] at h; cases h
  | some R =>
    rw [hR] at h
    simp only [Bool.and_eq_true, decide_eq_true_eq, Bool.or_eq_true] at h
    obtain ⟨⟨⟨⟨⟨c1, r0⟩, r1⟩, r2⟩, eU⟩, dU⟩ := h
    obtain ⟨a1, a2, a3, a4, a5, a6⟩ := nb_div hp0 h0 h1 h2 hV c1
    have hs := crs_sc hp0 a1 a2 a3
    refine ⟨R, nbU p (nbC p u (nbV p u w) rho w) R, rfl, dU, ?_, hs, ⟨a4, a5, a6⟩, r0, r1, r2⟩
    rw [← eU, ← qf_trn_trn, hs, sc6_trn]
