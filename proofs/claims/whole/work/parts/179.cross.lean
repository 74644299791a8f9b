/-! neighbours: the class's cross -/
theorem x2_lay {six w : Nat → Int32} {Q : F6} {W : V3} {p u : Nat} (hp : p = 3 ∨ p = 5 ∨ p = 7) (hu : u < 3) (hs : a6 six Q) (hq : qs_ Q) (hw : av w 0 W) (h60 : v60 W) (hn : nv W) (b : Nat → Int32) {F : Nat} (hF : 100 ≤ F) : ∃ b', fX2_layBasis F (ix p) (ix u) six w b = some b' ∧ a9 b' (nbC p u (nbV p u W) (rhoT Q p W u) W) := by
  have hne : ¬ ix p = 0 := by rw [ix_0, ix_eq (by omega) (by omega)]; omega
  have rp : rI (p : Int) := ⟨by omega, by omega⟩
  have rm : ∀ x : Int, 0 ≤ x → x ≤ 60 → ((Int32.ofInt x - Int32.ofInt x / ix p * ix p) = 0 ↔ x % (p : Int) = 0) := fun x h1 h2 => by
    have e : Int32.ofInt x - Int32.ofInt x / ix p * ix p = Int32.ofInt (x.tmod p) := zi_rem ⟨by omega, by omega⟩ rp
    have l1 := Int.emod_nonneg x (by omega : (p : Int) ≠ 0)
    have l2 := Int.emod_lt_of_pos x (by omega : (0 : Int) < p)
    rw [e, Int.tmod_eq_emod_of_nonneg h1]
    exact zi_eq (b := 0) ⟨by omega, by omega⟩ ⟨by decide, by decide⟩
  have g := hw
  obtain ⟨g0, g1, g2⟩ := g
  simp only [Nat.zero_add] at g0 g1 g2
  have h60' := h60
  obtain ⟨w1, w2, w3⟩ := h60'
  have hn' := hn
  obtain ⟨n1, n2, n3⟩ := hn'
  rw [lay_0]
  have hc : u = 0 ∨ u = 1 ∨ u = 2 := by omega
  rcases hc with e | e | e <;> subst e
  · have e1 : (ix 0 + 1) - (ix 0 + 1) / 3 * 3 = 1 := by decide
    have e2 : (ix 0 + 2) - (ix 0 + 2) / 3 * 3 = 2 := by decide
    rw [e1, e2, if_pos (by decide), if_pos hne]
    have e3 : w (1 : Int32).toNatClampNeg = Int32.ofInt W.2.1 := g1
    rw [e3]
    by_cases c : W.2.1 % (p : Int) = 0
    · rw [if_pos ((rm _ (by omega) (by omega)).mpr c)]
      have e4 : nbV p 0 W = 2 := by simp [nbV, col, c]
      rw [e4]
      exact lay_02 hp hs hq hw h60 hn b hF
    · rw [if_neg (fun k => c ((rm _ (by omega) (by omega)).mp k))]
      have e4 : nbV p 0 W = 1 := by simp [nbV, col, c]
      rw [e4]
      exact lay_01 hp hs hq hw h60 hn b hF
  · have e1 : (ix 1 + 1) - (ix 1 + 1) / 3 * 3 = 2 := by decide
    have e2 : (ix 1 + 2) - (ix 1 + 2) / 3 * 3 = 0 := by decide
    rw [e1, e2, if_pos (by decide), if_pos hne]
    have e3 : w (2 : Int32).toNatClampNeg = Int32.ofInt W.2.2 := g2
    rw [e3]
    by_cases c : W.2.2 % (p : Int) = 0
    · rw [if_pos ((rm _ (by omega) (by omega)).mpr c)]
      have e4 : nbV p 1 W = 0 := by simp [nbV, col, c]
      rw [e4]
      exact lay_10 hp hs hq hw h60 hn b hF
    · rw [if_neg (fun k => c ((rm _ (by omega) (by omega)).mp k))]
      have e4 : nbV p 1 W = 2 := by simp [nbV, col, c]
      rw [e4]
      exact lay_12 hp hs hq hw h60 hn b hF
  · have e1 : (ix 2 + 1) - (ix 2 + 1) / 3 * 3 = 0 := by decide
    have e2 : (ix 2 + 2) - (ix 2 + 2) / 3 * 3 = 1 := by decide
    rw [e1, e2, if_pos (by decide), if_pos hne]
    have e3 : w (0 : Int32).toNatClampNeg = Int32.ofInt W.1 := g0
    rw [e3]
    by_cases c : W.1 % (p : Int) = 0
    · rw [if_pos ((rm _ (by omega) (by omega)).mpr c)]
      have e4 : nbV p 2 W = 1 := by simp [nbV, col, c]
      rw [e4]
      exact lay_21 hp hs hq hw h60 hn b hF
    · rw [if_neg (fun k => c ((rm _ (by omega) (by omega)).mp k))]
      have e4 : nbV p 2 W = 0 := by simp [nbV, col, c]
      rw [e4]
      exact lay_20 hp hs hq hw h60 hn b hF
theorem sc_dv {Q : F6} {p : Int} (hp : p ≠ 0) {B : T9} (h : qf_trn Q (scT p B) = sc6 (p * p) (crs Q p B)) : (p * p ∣ qf_val Q B.1) ∧ (p ∣ qf_tch Q B.1 B.2.1) ∧ (p ∣ qf_tch Q B.1 B.2.2) := by
  have s3 : ∀ v w : V3, qf_tch Q v (qf_sc p w) = p * qf_tch Q v w := fun v w => by simp only [qf_tch, qf_sc]; grind
  have k1 := congrArg (fun x : F6 => x.1) h
  have k5 := congrArg (fun x : F6 => x.2.2.2.2.1) h
  have k6 := congrArg (fun x : F6 => x.2.2.2.2.2) h
  simp only [qf_trn, scT, sc6, crs, s3] at k1 k5 k6
  refine ⟨⟨_, k1⟩, ⟨qf_tch Q B.1 B.2.1 / p, ?_⟩, ⟨qf_tch Q B.1 B.2.2 / p, ?_⟩⟩
  · exact Int.eq_of_mul_eq_mul_left hp (by rw [k6, Int.mul_assoc])
  · exact Int.eq_of_mul_eq_mul_left hp (by rw [k5, Int.mul_assoc])
theorem x2_cross {six w : Nat → Int32} {Q : F6} {p i u t : Nat} (hp : p = 3 ∨ p = 5 ∨ p = 7) {l : V3} (h : LN Q p i l u t) (hs : a6 six Q) (hq : qs_ Q) (hw : av w 0 (zW l p t u)) (h60 : v60 (zW l p t u)) (hn : nv (zW l p t u)) (b c : Nat → Int32) {F : Nat} (hF : 100 ≤ F) : ∃ b' c', fX2_cross F (ix p) (ix u) six w b c = some (b', c') ∧ a6 c' (crs Q p (nbC p u (nbV p u (zW l p t u)) (rhoT Q p (zW l p t u) u) (zW l p t u))) := by
  obtain ⟨R, U, _, _, _, hsc, ⟨v0, v1, v2⟩, _⟩ := nb_both hp h
  obtain ⟨b', eb, hb⟩ := x2_lay hp h.2.1 hs hq hw h60 hn b hF
  obtain ⟨c1, ec, hc⟩ := x4_turn hs hb c hF
  generalize nbC p u (nbV p u (zW l p t u)) (rhoT Q p (zW l p t u) u) (zW l p t u) = B at *
  obtain ⟨d1, d2, d3⟩ := sc_dv (by omega) hsc
  have hne : ¬ ix p = 0 := by rw [ix_0, ix_eq (by omega) (by omega)]; omega
  have rp : rI (p : Int) := ⟨by omega, by omega⟩
  have hpp : (p : Int) * p ≤ 49 ∧ 9 ≤ (p : Int) * p := by rcases hp with e | e | e <;> subst e <;> decide
  have rpp : rI ((p : Int) * p) := ⟨by omega, by omega⟩
  have epp : ix p * ix p = Int32.ofInt ((p : Int) * p) := (Int32.ofInt_mul _ _).symm
  have hne2 : ¬ Int32.ofInt ((p : Int) * p) = 0 := by
    intro k
    have := (zi_eq (b := 0) rpp ⟨by decide, by decide⟩).mp k
    omega
  unfold fX2_cross
  rw [eb]
  simp only [bd1]
  rw [ec]
  simp only [nm_eq]
  rw [epp, if_pos hne2, if_pos hne, if_pos hne]
  refine ⟨_, _, rfl, ?_⟩
  obtain ⟨c10, c11, c12, c13, c14, c15⟩ := hc
  have q1 := qs_val hq v0
  have q5 := qs_tch hq v0 v2
  have q6 := qs_tch hq v0 v1
  have ip : ix p = Int32.ofInt (p : Int) := rfl
  have x0 : c1 0 / Int32.ofInt ((p : Int) * p) = Int32.ofInt (qf_val Q B.1 / ((p : Int) * p)) := by
    rw [c10, zi_div ⟨by show _ ≤ qf_val Q B.1; omega, by show qf_val Q B.1 ≤ _; omega⟩ rpp]
    rw [show (qf_trn Q B).1 = qf_val Q B.1 from rfl, Int.tdiv_eq_ediv_of_dvd d1]
  have x4 : c1 4 / ix p = Int32.ofInt (qf_tch Q B.1 B.2.2 / (p : Int)) := by
    rw [c14, ip, show (qf_trn Q B).2.2.2.2.1 = qf_tch Q B.1 B.2.2 from rfl, zi_div ⟨by omega, by omega⟩ rp, Int.tdiv_eq_ediv_of_dvd d3]
  have x5 : c1 5 / ix p = Int32.ofInt (qf_tch Q B.1 B.2.1 / (p : Int)) := by
    rw [c15, ip, show (qf_trn Q B).2.2.2.2.2 = qf_tch Q B.1 B.2.1 from rfl, zi_div ⟨by omega, by omega⟩ rp, Int.tdiv_eq_ediv_of_dvd d2]
  have u4 : (upd c1 0 (c1 0 / Int32.ofInt ((p : Int) * p))) 4 = c1 4 := by simp [upd]
  have u5 : (upd (upd c1 0 (c1 0 / Int32.ofInt ((p : Int) * p))) 4 (c1 4 / ix p)) 5 = c1 5 := by simp [upd]
  rw [u4, u5, x0, x4, x5]
  refine ⟨?_, ?_, ?_, ?_, ?_, ?_⟩
  · simp [upd, crs]
  · simpa [upd, crs, qf_trn] using c11
  · simpa [upd, crs, qf_trn] using c12
  · simpa [upd, crs, qf_trn] using c13
  · simp [upd, crs]
  · simp [upd, crs]
