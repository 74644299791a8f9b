/-! turns go into 48 -/
theorem X2_len : (Xm 2).length = 168 := by decide +kernel
theorem X3_len : (Xm 3).length = 11232 := by decide +kernel
theorem pr2 (a b : Int) (ha : a % ((2 : Nat) : Int) ≠ 0) (hb : b % ((2 : Nat) : Int) ≠ 0) : (a * b) % ((2 : Nat) : Int) ≠ 0 := by
  have h1 : a % 2 = 1 := by omega
  have h2 : b % 2 = 1 := by omega
  have : (a * b) % 2 = 1 := by rw [Int.mul_emod, h1, h2]; rfl
  omega
theorem pr3 (a b : Int) (ha : a % ((3 : Nat) : Int) ≠ 0) (hb : b % ((3 : Nat) : Int) ≠ 0) : (a * b) % ((3 : Nat) : Int) ≠ 0 := mp3 ha hb
theorem pr_dvd {m : Nat} (hpr : ∀ a b : Int, a % (m : Int) ≠ 0 → b % (m : Int) ≠ 0 → (a * b) % (m : Int) ≠ 0) {x : T9} (hx : x ∈ Xm m) (t : Int) (h : (m : Int) ∣ t * qf_det x) : (m : Int) ∣ t := by
  by_cases g : t % (m : Int) = 0
  · exact Int.dvd_of_emod_eq_zero g
  · exact absurd (Int.emod_eq_zero_of_dvd h) (hpr _ _ g (Xm_mem.mp hx).2.2.2)
theorem gl_mod {m : Nat} (hm : m = 2 ∨ m = 3) {g : T9} (hg : qf_gl g) : qf_det g % (m : Int) ≠ 0 := by
  rcases hg with h | h <;> rw [h] <;> rcases hm with e | e <;> subst e <;> decide
theorem aut_box {L : F6} (hS : qr_S L) {M : T9} (hM : qf_gl M ∧ qf_trn L M = L) : qr_bx M.1 ∧ qr_bx M.2.1 ∧ qr_bx M.2.2 := by
  have e := hM.2
  refine qr_box hS hM.1 ?_ ?_ ?_
  · have := congrArg (fun q : F6 => q.1) e
    exact this
  · have := congrArg (fun q : F6 => q.2.1) e
    exact this
  · have := congrArg (fun q : F6 => q.2.2.1) e
    exact this
theorem aut_act_m {L : F6} {G : List T9} (h : aut_ L G) {m : Nat} (hm : m = 2 ∨ m = 3) : G.length ∣ (G.filter (fun g => decide (rd9 (m : Int) g = rd9 (m : Int) qf_one))).length * (Xm m).length := by
  have hpr : ∀ a b : Int, a % (m : Int) ≠ 0 → b % (m : Int) ≠ 0 → (a * b) % (m : Int) ≠ 0 := by
    rcases hm with e | e <;> subst e
    · exact pr2
    · exact pr3
  refine aut_act h (Xm_nd m) (fun x hx => ?_) (fun x hx => pr_dvd hpr hx) (fun g hg x hx => Xm_gA (by omega) hpr (gl_mod hm ((h.2 g).mp hg).1) hx)
  obtain ⟨x1, x2, x3, _⟩ := Xm_mem.mp hx
  unfold rd9
  rw [Rm_id x1, Rm_id x2, Rm_id x3]
theorem aut_3 {L : F6} (hS : qr_S L) {G : List T9} (h : aut_ L G) : G.length ∣ 11232 := by
  have hd := aut_act_m h (Or.inr rfl)
  have hk : (G.filter (fun g => decide (rd9 ((3 : Nat) : Int) g = rd9 ((3 : Nat) : Int) qf_one))).length = 1 := by
    refine nd_eq (m := [qf_one]) (List.Pairwise.filter _ h.1) (by simp) (fun g => ?_)
    rw [List.mem_filter, decide_eq_true_eq, List.mem_singleton]
    constructor
    · rintro ⟨hg, e⟩
      obtain ⟨b1, b2, b3⟩ := aut_box hS ((h.2 g).mp hg)
      obtain ⟨⟨m0, m1, m2⟩, ⟨m3, m4, m5⟩, ⟨m6, m7, m8⟩⟩ := g
      simp only [rd9, rd3, qf_one, Prod.mk.injEq] at e
      simp only [qr_bx] at b1 b2 b3
      simp only [qf_one, Prod.mk.injEq]
      omega
    · intro e
      subst e
      exact ⟨aut_one h, rfl⟩
  rw [hk, X3_len, Nat.one_mul] at hd
  exact hd
def sgT (a b c : Int) : T9 := ((a, 0, 0), (0, b, 0), (0, 0, c))
def sgs : List T9 := [sgT 1 1 1, sgT 1 1 (-1), sgT 1 (-1) 1, sgT 1 (-1) (-1), sgT (-1) 1 1, sgT (-1) 1 (-1), sgT (-1) (-1) 1, sgT (-1) (-1) (-1)]
theorem sg_trn (L : F6) (a b c : Int) : qf_trn L (sgT a b c) = (L.1 * a * a, L.2.1 * b * b, L.2.2.1 * c * c, L.2.2.2.1 * (b * c), L.2.2.2.2.1 * (a * c), L.2.2.2.2.2 * (a * b)) := by
  simp only [qf_trn, sgT, qf_val, qf_tch, Prod.mk.injEq]
  refine ⟨?_, ?_, ?_, ?_, ?_, ?_⟩ <;> grind
/-- the tables of G that are 1 by 2 are those of signs -/
theorem aut_K {L : F6} (hS : qr_S L) {G : List T9} (h : aut_ L G) : (G.filter (fun g => decide (rd9 ((2 : Nat) : Int) g = rd9 ((2 : Nat) : Int) qf_one))).length = (sgs.filter (fun M => decide (qf_trn L M = L))).length := by
  refine nd_eq (List.Pairwise.filter _ h.1) (List.Pairwise.filter _ (by decide)) (fun g => ?_)
  rw [List.mem_filter, List.mem_filter, decide_eq_true_eq, decide_eq_true_eq]
  constructor
  · rintro ⟨hg, e⟩
    have hg2 := (h.2 g).mp hg
    obtain ⟨b1, b2, b3⟩ := aut_box hS hg2
    refine ⟨?_, hg2.2⟩
    obtain ⟨⟨m0, m1, m2⟩, ⟨m3, m4, m5⟩, ⟨m6, m7, m8⟩⟩ := g
    simp only [rd9, rd3, qf_one, Prod.mk.injEq] at e
    simp only [qr_bx] at b1 b2 b3
    have z : m1 = 0 ∧ m2 = 0 ∧ m3 = 0 ∧ m5 = 0 ∧ m6 = 0 ∧ m7 = 0 := by omega
    have s0 : m0 = 1 ∨ m0 = -1 := by omega
    have s4 : m4 = 1 ∨ m4 = -1 := by omega
    have s8 : m8 = 1 ∨ m8 = -1 := by omega
    obtain ⟨z1, z2, z3, z4, z5, z6⟩ := z
    subst z1; subst z2; subst z3; subst z4; subst z5; subst z6
    rcases s0 with s0 | s0 <;> rcases s4 with s4 | s4 <;> rcases s8 with s8 | s8 <;> subst s0 <;> subst s4 <;> subst s8 <;> decide
  · rintro ⟨hg, e⟩
    have hgl : qf_gl g ∧ rd9 ((2 : Nat) : Int) g = rd9 ((2 : Nat) : Int) qf_one := by
      simp only [sgs, List.mem_cons, List.not_mem_nil, or_false] at hg
      unfold qf_gl
      rcases hg with e | e | e | e | e | e | e | e <;> subst e <;> decide
    exact ⟨(h.2 g).mpr ⟨hgl.1, e⟩, hgl.2⟩
