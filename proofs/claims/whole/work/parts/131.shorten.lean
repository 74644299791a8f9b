/-! the reference: shorten -/
def sp_ (Q0 : F6) (M0 : T9) (cs : Prop) (f : Int32) (q b : Nat → Int64) : Prop := ∃ E, qf_gl E ∧ al6 q (qf_trn Q0 E) ∧ al9 b (qf_mul E M0) ∧ ((qf_trn Q0 E).1 ≤ Q0.1 ∧ (qf_trn Q0 E).2.1 ≤ Q0.2.1 ∧ (qf_trn Q0 E).2.2.1 ≤ Q0.2.2.1) ∧ ((f = 0 ∧ E = qf_one ∧ cs) ∨ (f = 1 ∧ qf_sum (qf_trn Q0 E) < qf_sum Q0))
theorem l7_p0 (k88 : Int32 → (Nat → Int64) → (Nat → Int64) → Option ((Nat → Int64) × (Nat → Int64))) (fu n : Nat) (f : Int32) (q b : Nat → Int64) : fX7_shorten_L41 k88 fu (n + 1) f 0 q b = fX7_shorten_L41 k88 fu n f 1 q b := rfl
theorem l7_p10 (k88 : Int32 → (Nat → Int64) → (Nat → Int64) → Option ((Nat → Int64) × (Nat → Int64))) (fu n : Nat) (f : Int32) (q b : Nat → Int64) : fX7_shorten_L41 k88 fu (n + 1) f 1 q b = bd3 (fX7_take fu q b 0 1) (fun r q' b' => if r = 0 then (if f = 0 then fX7_shorten_L41 k88 fu n 0 2 q' b' else fX7_shorten_L41 k88 fu n 1 2 q' b') else fX7_shorten_L41 k88 fu n 1 2 q' b') := rfl
theorem l7_p1 {k88 : Int32 → (Nat → Int64) → (Nat → Int64) → Option ((Nat → Int64) × (Nat → Int64))} {Q0 : F6} {M0 : T9} {cs : Prop} (hp : qf_pd Q0) (hB : qB Q0) (fu n : Nat) {f : Int32} {q b : Nat → Int64} (h : sp_ Q0 M0 cs f q b) : ∃ f' q' b', fX7_shorten_L41 k88 (fu + 4) (n + 1) f 1 q b = fX7_shorten_L41 k88 (fu + 4) n f' 2 q' b' ∧ sp_ Q0 M0 (cs ∧ gk_ Q0.1 Q0.2.2.2.2.2 ≤ 0) f' q' b' := by
  obtain ⟨E, hE, hq, hb, hd, hf⟩ := h
  have hp' := qf_pd_trn hp hE
  have hB' := qB_of hp' (by have := hB.1; omega) (by have := hB.2.1; omega) (by have := hB.2.2.1; omega)
  rw [l7_p10]
  rcases l7_take01 hq hb hB' fu with ⟨g, e⟩ | ⟨g, q', b', e, hq', hb'⟩
  · rw [e]
    simp only [bd3, ↓reduceIte]
    rcases hf with ⟨f0, f1, f2⟩ | ⟨f0, f1⟩
    · subst f0
      simp only [↓reduceIte]
      refine ⟨_, _, _, rfl, E, hE, hq, hb, hd, Or.inl ⟨rfl, f1, f2, ?_⟩⟩
      rw [f1, qf_trn_one] at g
      exact g
    · subst f0
      rw [if_neg (by decide)]
      exact ⟨_, _, _, rfl, E, hE, hq, hb, hd, Or.inr ⟨rfl, f1⟩⟩
  · rw [e]
    simp only [bd3]
    rw [if_neg (by decide)]
    have ok := sh_el10 (q := qf_trn Q0 E) (t := -tk_ (qf_trn Q0 E).1 (qf_trn Q0 E).2.2.2.2.2) (by unfold gk_ at g; grind)
    obtain ⟨o1, o2, o3, o4, o5⟩ := ok
    rw [qf_trn_trn] at hq' o2 o3 o4 o5
    rw [← qf_mul_assoc] at hb'
    refine ⟨_, _, _, rfl, _, qf_gl_mul o1 hE, hq', hb', ⟨by omega, by omega, by omega⟩, Or.inr ⟨rfl, ?_⟩⟩
    have hle : qf_sum (qf_trn Q0 E) ≤ qf_sum Q0 := by
      rcases hf with ⟨_, f1, _⟩ | ⟨_, f1⟩
      · rw [f1, qf_trn_one]; exact Int.le_refl _
      · omega
    omega
theorem l7_p20 (k88 : Int32 → (Nat → Int64) → (Nat → Int64) → Option ((Nat → Int64) × (Nat → Int64))) (fu n : Nat) (f : Int32) (q b : Nat → Int64) : fX7_shorten_L41 k88 fu (n + 1) f 2 q b = bd3 (fX7_take fu q b 0 2) (fun r q' b' => if r = 0 then (if f = 0 then fX7_shorten_L41 k88 fu n 0 3 q' b' else fX7_shorten_L41 k88 fu n 1 3 q' b') else fX7_shorten_L41 k88 fu n 1 3 q' b') := rfl
theorem l7_p2 {k88 : Int32 → (Nat → Int64) → (Nat → Int64) → Option ((Nat → Int64) × (Nat → Int64))} {Q0 : F6} {M0 : T9} {cs : Prop} (hp : qf_pd Q0) (hB : qB Q0) (fu n : Nat) {f : Int32} {q b : Nat → Int64} (h : sp_ Q0 M0 cs f q b) : ∃ f' q' b', fX7_shorten_L41 k88 (fu + 4) (n + 1) f 2 q b = fX7_shorten_L41 k88 (fu + 4) n f' 3 q' b' ∧ sp_ Q0 M0 (cs ∧ gk_ Q0.1 Q0.2.2.2.2.1 ≤ 0) f' q' b' := by
  obtain ⟨E, hE, hq, hb, hd, hf⟩ := h
  have hp' := qf_pd_trn hp hE
  have hB' := qB_of hp' (by have := hB.1; omega) (by have := hB.2.1; omega) (by have := hB.2.2.1; omega)
  rw [l7_p20]
  rcases l7_take02 hq hb hB' fu with ⟨g, e⟩ | ⟨g, q', b', e, hq', hb'⟩
  · rw [e]
    simp only [bd3, ↓reduceIte]
    rcases hf with ⟨f0, f1, f2⟩ | ⟨f0, f1⟩
    · subst f0
      simp only [↓reduceIte]
      refine ⟨_, _, _, rfl, E, hE, hq, hb, hd, Or.inl ⟨rfl, f1, f2, ?_⟩⟩
      rw [f1, qf_trn_one] at g
      exact g
    · subst f0
      rw [if_neg (by decide)]
      exact ⟨_, _, _, rfl, E, hE, hq, hb, hd, Or.inr ⟨rfl, f1⟩⟩
  · rw [e]
    simp only [bd3]
    rw [if_neg (by decide)]
    have ok := sh_el20 (q := qf_trn Q0 E) (t := -tk_ (qf_trn Q0 E).1 (qf_trn Q0 E).2.2.2.2.1) (by unfold gk_ at g; grind)
    obtain ⟨o1, o2, o3, o4, o5⟩ := ok
    rw [qf_trn_trn] at hq' o2 o3 o4 o5
    rw [← qf_mul_assoc] at hb'
    refine ⟨_, _, _, rfl, _, qf_gl_mul o1 hE, hq', hb', ⟨by omega, by omega, by omega⟩, Or.inr ⟨rfl, ?_⟩⟩
    have hle : qf_sum (qf_trn Q0 E) ≤ qf_sum Q0 := by
      rcases hf with ⟨_, f1, _⟩ | ⟨_, f1⟩
      · rw [f1, qf_trn_one]; exact Int.le_refl _
      · omega
    omega
theorem l7_p30 (k88 : Int32 → (Nat → Int64) → (Nat → Int64) → Option ((Nat → Int64) × (Nat → Int64))) (fu n : Nat) (f : Int32) (q b : Nat → Int64) : fX7_shorten_L41 k88 fu (n + 1) f 3 q b = bd3 (fX7_take fu q b 1 0) (fun r q' b' => if r = 0 then (if f = 0 then fX7_shorten_L41 k88 fu n 0 4 q' b' else fX7_shorten_L41 k88 fu n 1 4 q' b') else fX7_shorten_L41 k88 fu n 1 4 q' b') := rfl
theorem l7_p3 {k88 : Int32 → (Nat → Int64) → (Nat → Int64) → Option ((Nat → Int64) × (Nat → Int64))} {Q0 : F6} {M0 : T9} {cs : Prop} (hp : qf_pd Q0) (hB : qB Q0) (fu n : Nat) {f : Int32} {q b : Nat → Int64} (h : sp_ Q0 M0 cs f q b) : ∃ f' q' b', fX7_shorten_L41 k88 (fu + 4) (n + 1) f 3 q b = fX7_shorten_L41 k88 (fu + 4) n f' 4 q' b' ∧ sp_ Q0 M0 (cs ∧ gk_ Q0.2.1 Q0.2.2.2.2.2 ≤ 0) f' q' b' := by
  obtain ⟨E, hE, hq, hb, hd, hf⟩ := h
  have hp' := qf_pd_trn hp hE
  have hB' := qB_of hp' (by have := hB.1; omega) (by have := hB.2.1; omega) (by have := hB.2.2.1; omega)
  rw [l7_p30]
  rcases l7_take10 hq hb hB' fu with ⟨g, e⟩ | ⟨g, q', b', e, hq', hb'⟩
  · rw [e]
    simp only [bd3, ↓reduceIte]
    rcases hf with ⟨f0, f1, f2⟩ | ⟨f0, f1⟩
    · subst f0
      simp only [↓reduceIte]
      refine ⟨_, _, _, rfl, E, hE, hq, hb, hd, Or.inl ⟨rfl, f1, f2, ?_⟩⟩
      rw [f1, qf_trn_one] at g
      exact g
    · subst f0
      rw [if_neg (by decide)]
      exact ⟨_, _, _, rfl, E, hE, hq, hb, hd, Or.inr ⟨rfl, f1⟩⟩
  · rw [e]
    simp only [bd3]
    rw [if_neg (by decide)]
    have ok := sh_el01 (q := qf_trn Q0 E) (t := -tk_ (qf_trn Q0 E).2.1 (qf_trn Q0 E).2.2.2.2.2) (by unfold gk_ at g; grind)
    obtain ⟨o1, o2, o3, o4, o5⟩ := ok
    rw [qf_trn_trn] at hq' o2 o3 o4 o5
    rw [← qf_mul_assoc] at hb'
    refine ⟨_, _, _, rfl, _, qf_gl_mul o1 hE, hq', hb', ⟨by omega, by omega, by omega⟩, Or.inr ⟨rfl, ?_⟩⟩
    have hle : qf_sum (qf_trn Q0 E) ≤ qf_sum Q0 := by
      rcases hf with ⟨_, f1, _⟩ | ⟨_, f1⟩
      · rw [f1, qf_trn_one]; exact Int.le_refl _
      · omega
    omega
theorem l7_p4 (k88 : Int32 → (Nat → Int64) → (Nat → Int64) → Option ((Nat → Int64) × (Nat → Int64))) (fu n : Nat) (f : Int32) (q b : Nat → Int64) : fX7_shorten_L41 k88 fu (n + 1) f 4 q b = fX7_shorten_L41 k88 fu n f 5 q b := rfl
theorem l7_p50 (k88 : Int32 → (Nat → Int64) → (Nat → Int64) → Option ((Nat → Int64) × (Nat → Int64))) (fu n : Nat) (f : Int32) (q b : Nat → Int64) : fX7_shorten_L41 k88 fu (n + 1) f 5 q b = bd3 (fX7_take fu q b 1 2) (fun r q' b' => if r = 0 then (if f = 0 then fX7_shorten_L41 k88 fu n 0 6 q' b' else fX7_shorten_L41 k88 fu n 1 6 q' b') else fX7_shorten_L41 k88 fu n 1 6 q' b') := rfl
theorem l7_p5 {k88 : Int32 → (Nat → Int64) → (Nat → Int64) → Option ((Nat → Int64) × (Nat → Int64))} {Q0 : F6} {M0 : T9} {cs : Prop} (hp : qf_pd Q0) (hB : qB Q0) (fu n : Nat) {f : Int32} {q b : Nat → Int64} (h : sp_ Q0 M0 cs f q b) : ∃ f' q' b', fX7_shorten_L41 k88 (fu + 4) (n + 1) f 5 q b = fX7_shorten_L41 k88 (fu + 4) n f' 6 q' b' ∧ sp_ Q0 M0 (cs ∧ gk_ Q0.2.1 Q0.2.2.2.1 ≤ 0) f' q' b' := by
  obtain ⟨E, hE, hq, hb, hd, hf⟩ := h
  have hp' := qf_pd_trn hp hE
  have hB' := qB_of hp' (by have := hB.1; omega) (by have := hB.2.1; omega) (by have := hB.2.2.1; omega)
  rw [l7_p50]
  rcases l7_take12 hq hb hB' fu with ⟨g, e⟩ | ⟨g, q', b', e, hq', hb'⟩
  · rw [e]
    simp only [bd3, ↓reduceIte]
    rcases hf with ⟨f0, f1, f2⟩ | ⟨f0, f1⟩
    · subst f0
      simp only [↓reduceIte]
      refine ⟨_, _, _, rfl, E, hE, hq, hb, hd, Or.inl ⟨rfl, f1, f2, ?_⟩⟩
      rw [f1, qf_trn_one] at g
      exact g
    · subst f0
      rw [if_neg (by decide)]
      exact ⟨_, _, _, rfl, E, hE, hq, hb, hd, Or.inr ⟨rfl, f1⟩⟩
  · rw [e]
    simp only [bd3]
    rw [if_neg (by decide)]
    have ok := sh_el21 (q := qf_trn Q0 E) (t := -tk_ (qf_trn Q0 E).2.1 (qf_trn Q0 E).2.2.2.1) (by unfold gk_ at g; grind)
    obtain ⟨o1, o2, o3, o4, o5⟩ := ok
    rw [qf_trn_trn] at hq' o2 o3 o4 o5
    rw [← qf_mul_assoc] at hb'
    refine ⟨_, _, _, rfl, _, qf_gl_mul o1 hE, hq', hb', ⟨by omega, by omega, by omega⟩, Or.inr ⟨rfl, ?_⟩⟩
    have hle : qf_sum (qf_trn Q0 E) ≤ qf_sum Q0 := by
      rcases hf with ⟨_, f1, _⟩ | ⟨_, f1⟩
      · rw [f1, qf_trn_one]; exact Int.le_refl _
      · omega
    omega
theorem l7_p60 (k88 : Int32 → (Nat → Int64) → (Nat → Int64) → Option ((Nat → Int64) × (Nat → Int64))) (fu n : Nat) (f : Int32) (q b : Nat → Int64) : fX7_shorten_L41 k88 fu (n + 1) f 6 q b = bd3 (fX7_take fu q b 2 0) (fun r q' b' => if r = 0 then (if f = 0 then fX7_shorten_L41 k88 fu n 0 7 q' b' else fX7_shorten_L41 k88 fu n 1 7 q' b') else fX7_shorten_L41 k88 fu n 1 7 q' b') := rfl
theorem l7_p6 {k88 : Int32 → (Nat → Int64) → (Nat → Int64) → Option ((Nat → Int64) × (Nat → Int64))} {Q0 : F6} {M0 : T9} {cs : Prop} (hp : qf_pd Q0) (hB : qB Q0) (fu n : Nat) {f : Int32} {q b : Nat → Int64} (h : sp_ Q0 M0 cs f q b) : ∃ f' q' b', fX7_shorten_L41 k88 (fu + 4) (n + 1) f 6 q b = fX7_shorten_L41 k88 (fu + 4) n f' 7 q' b' ∧ sp_ Q0 M0 (cs ∧ gk_ Q0.2.2.1 Q0.2.2.2.2.1 ≤ 0) f' q' b' := by
  obtain ⟨E, hE, hq, hb, hd, hf⟩ := h
  have hp' := qf_pd_trn hp hE
  have hB' := qB_of hp' (by have := hB.1; omega) (by have := hB.2.1; omega) (by have := hB.2.2.1; omega)
  rw [l7_p60]
  rcases l7_take20 hq hb hB' fu with ⟨g, e⟩ | ⟨g, q', b', e, hq', hb'⟩
  · rw [e]
    simp only [bd3, ↓reduceIte]
    rcases hf with ⟨f0, f1, f2⟩ | ⟨f0, f1⟩
    · subst f0
      simp only [↓reduceIte]
      refine ⟨_, _, _, rfl, E, hE, hq, hb, hd, Or.inl ⟨rfl, f1, f2, ?_⟩⟩
      rw [f1, qf_trn_one] at g
      exact g
    · subst f0
      rw [if_neg (by decide)]
      exact ⟨_, _, _, rfl, E, hE, hq, hb, hd, Or.inr ⟨rfl, f1⟩⟩
  · rw [e]
    simp only [bd3]
    rw [if_neg (by decide)]
    have ok := sh_el02 (q := qf_trn Q0 E) (t := -tk_ (qf_trn Q0 E).2.2.1 (qf_trn Q0 E).2.2.2.2.1) (by unfold gk_ at g; grind)
    obtain ⟨o1, o2, o3, o4, o5⟩ := ok
    rw [qf_trn_trn] at hq' o2 o3 o4 o5
    rw [← qf_mul_assoc] at hb'
    refine ⟨_, _, _, rfl, _, qf_gl_mul o1 hE, hq', hb', ⟨by omega, by omega, by omega⟩, Or.inr ⟨rfl, ?_⟩⟩
    have hle : qf_sum (qf_trn Q0 E) ≤ qf_sum Q0 := by
      rcases hf with ⟨_, f1, _⟩ | ⟨_, f1⟩
      · rw [f1, qf_trn_one]; exact Int.le_refl _
      · omega
    omega
theorem l7_p70 (k88 : Int32 → (Nat → Int64) → (Nat → Int64) → Option ((Nat → Int64) × (Nat → Int64))) (fu n : Nat) (f : Int32) (q b : Nat → Int64) : fX7_shorten_L41 k88 fu (n + 1) f 7 q b = bd3 (fX7_take fu q b 2 1) (fun r q' b' => if r = 0 then (if f = 0 then fX7_shorten_L41 k88 fu n 0 8 q' b' else fX7_shorten_L41 k88 fu n 1 8 q' b') else fX7_shorten_L41 k88 fu n 1 8 q' b') := rfl
theorem l7_p7 {k88 : Int32 → (Nat → Int64) → (Nat → Int64) → Option ((Nat → Int64) × (Nat → Int64))} {Q0 : F6} {M0 : T9} {cs : Prop} (hp : qf_pd Q0) (hB : qB Q0) (fu n : Nat) {f : Int32} {q b : Nat → Int64} (h : sp_ Q0 M0 cs f q b) : ∃ f' q' b', fX7_shorten_L41 k88 (fu + 4) (n + 1) f 7 q b = fX7_shorten_L41 k88 (fu + 4) n f' 8 q' b' ∧ sp_ Q0 M0 (cs ∧ gk_ Q0.2.2.1 Q0.2.2.2.1 ≤ 0) f' q' b' := by
  obtain ⟨E, hE, hq, hb, hd, hf⟩ := h
  have hp' := qf_pd_trn hp hE
  have hB' := qB_of hp' (by have := hB.1; omega) (by have := hB.2.1; omega) (by have := hB.2.2.1; omega)
  rw [l7_p70]
  rcases l7_take21 hq hb hB' fu with ⟨g, e⟩ | ⟨g, q', b', e, hq', hb'⟩
  · rw [e]
    simp only [bd3, ↓reduceIte]
    rcases hf with ⟨f0, f1, f2⟩ | ⟨f0, f1⟩
    · subst f0
      simp only [↓reduceIte]
      refine ⟨_, _, _, rfl, E, hE, hq, hb, hd, Or.inl ⟨rfl, f1, f2, ?_⟩⟩
      rw [f1, qf_trn_one] at g
      exact g
    · subst f0
      rw [if_neg (by decide)]
      exact ⟨_, _, _, rfl, E, hE, hq, hb, hd, Or.inr ⟨rfl, f1⟩⟩
  · rw [e]
    simp only [bd3]
    rw [if_neg (by decide)]
    have ok := sh_el12 (q := qf_trn Q0 E) (t := -tk_ (qf_trn Q0 E).2.2.1 (qf_trn Q0 E).2.2.2.1) (by unfold gk_ at g; grind)
    obtain ⟨o1, o2, o3, o4, o5⟩ := ok
    rw [qf_trn_trn] at hq' o2 o3 o4 o5
    rw [← qf_mul_assoc] at hb'
    refine ⟨_, _, _, rfl, _, qf_gl_mul o1 hE, hq', hb', ⟨by omega, by omega, by omega⟩, Or.inr ⟨rfl, ?_⟩⟩
    have hle : qf_sum (qf_trn Q0 E) ≤ qf_sum Q0 := by
      rcases hf with ⟨_, f1, _⟩ | ⟨_, f1⟩
      · rw [f1, qf_trn_one]; exact Int.le_refl _
      · omega
    omega
theorem l7_p8 (k88 : Int32 → (Nat → Int64) → (Nat → Int64) → Option ((Nat → Int64) × (Nat → Int64))) (fu n : Nat) (f : Int32) (q b : Nat → Int64) : fX7_shorten_L41 k88 fu (n + 1) f 8 q b = fX7_shorten_L41 k88 fu n f 9 q b := rfl
theorem l7_p9 (k88 : Int32 → (Nat → Int64) → (Nat → Int64) → Option ((Nat → Int64) × (Nat → Int64))) (fu n : Nat) (f : Int32) (q b : Nat → Int64) : fX7_shorten_L41 k88 fu (n + 1) f 9 q b = k88 f q b := rfl
theorem l7_pass {k88 : Int32 → (Nat → Int64) → (Nat → Int64) → Option ((Nat → Int64) × (Nat → Int64))} {Q0 : F6} {M0 : T9} (hp : qf_pd Q0) (hB : qB Q0) {q b : Nat → Int64} (hq : al6 q Q0) (hb : al9 b M0) (fu : Nat) : ∃ f' q' b', fX7_shorten_L41 k88 (fu + 10) (fu + 10) 0 0 q b = k88 f' q' b' ∧ sp_ Q0 M0 (gk_ Q0.1 Q0.2.2.2.2.2 ≤ 0 ∧ gk_ Q0.1 Q0.2.2.2.2.1 ≤ 0 ∧ gk_ Q0.2.1 Q0.2.2.2.2.2 ≤ 0 ∧ gk_ Q0.2.1 Q0.2.2.2.1 ≤ 0 ∧ gk_ Q0.2.2.1 Q0.2.2.2.2.1 ≤ 0 ∧ gk_ Q0.2.2.1 Q0.2.2.2.1 ≤ 0) f' q' b' := by
  have h0 : sp_ Q0 M0 True 0 q b := ⟨qf_one, qf_gl_one, by rw [qf_trn_one]; exact hq, by rw [qf_one_mul]; exact hb, by rw [qf_trn_one]; exact ⟨Int.le_refl _, Int.le_refl _, Int.le_refl _⟩, Or.inl ⟨rfl, rfl, trivial⟩⟩
  rw [l7_p0]
  obtain ⟨f1, q1, b1, e1, s1⟩ := l7_p1 (k88 := k88) hp hB (fu + 6) (fu + 8) h0
  obtain ⟨f2, q2, b2, e2, s2⟩ := l7_p2 (k88 := k88) hp hB (fu + 6) (fu + 7) s1
  obtain ⟨f3, q3, b3, e3, s3⟩ := l7_p3 (k88 := k88) hp hB (fu + 6) (fu + 6) s2
  obtain ⟨f5, q5, b5, e5, s5⟩ := l7_p5 (k88 := k88) hp hB (fu + 6) (fu + 4) s3
  obtain ⟨f6, q6, b6, e6, s6⟩ := l7_p6 (k88 := k88) hp hB (fu + 6) (fu + 3) s5
  obtain ⟨f7, q7, b7, e7, s7⟩ := l7_p7 (k88 := k88) hp hB (fu + 6) (fu + 2) s6
  refine ⟨f7, q7, b7, ?_, ?_⟩
  · rw [e1, e2, e3, l7_p4, e5, e6, e7, l7_p8, l7_p9]
  · obtain ⟨E, g1, g2, g3, g4, g5⟩ := s7
    refine ⟨E, g1, g2, g3, g4, ?_⟩
    rcases g5 with ⟨a1, a2, ⟨⟨⟨⟨⟨⟨_, c1⟩, c2⟩, c3⟩, c4⟩, c5⟩, c6⟩⟩ | g5
    · exact Or.inl ⟨a1, a2, c1, c2, c3, c4, c5, c6⟩
    · exact Or.inr g5
def pw_ (q : F6) : Prop := (0 < q.1 ∧ 0 < q.2.1 ∧ 0 < q.2.2.1) ∧ (-q.1 ≤ q.2.2.2.2.2 ∧ q.2.2.2.2.2 ≤ q.1 ∧ -q.2.1 ≤ q.2.2.2.2.2 ∧ q.2.2.2.2.2 ≤ q.2.1) ∧ (-q.1 ≤ q.2.2.2.2.1 ∧ q.2.2.2.2.1 ≤ q.1 ∧ -q.2.2.1 ≤ q.2.2.2.2.1 ∧ q.2.2.2.2.1 ≤ q.2.2.1) ∧ (-q.2.1 ≤ q.2.2.2.1 ∧ q.2.2.2.1 ≤ q.2.1 ∧ -q.2.2.1 ≤ q.2.2.2.1 ∧ q.2.2.2.1 ≤ q.2.2.1)
theorem l7_loop (fu : Nat) : ∀ (m : Nat) (Q : F6) (M : T9) (q b : Nat → Int64) (n : Nat), qf_pd Q → qB Q → al6 q Q → al9 b M → qf_sum Q ≤ m → m + 2 ≤ n → ∃ q' b' E, fX7_shorten_L33 (fu + 10) n 1 q b = some (q', b') ∧ qf_gl E ∧ al6 q' (qf_trn Q E) ∧ al9 b' (qf_mul E M) ∧ ((qf_trn Q E).1 ≤ Q.1 ∧ (qf_trn Q E).2.1 ≤ Q.2.1 ∧ (qf_trn Q E).2.2.1 ≤ Q.2.2.1) ∧ pw_ (qf_trn Q E) := by
  intro m
  induction m with
  | zero =>
    intro Q M q b n hp hB hq hb hm
    exfalso
    have := hB.1; have := hB.2.1; have := hB.2.2.1
    unfold qf_sum at hm
    omega
  | succ m ih =>
    intro Q M q b n hp hB hq hb hm hn
    obtain ⟨n, rfl⟩ : ∃ k, n = k + 1 := ⟨n - 1, by omega⟩
    rw [fX7_shorten_L33, if_neg (by decide)]
    simp only [nm_eq]
    obtain ⟨f', q', b', e1, E, g1, g2, g3, g4, g5⟩ := l7_pass (k88 := fun x1 q2 b2 => fX7_shorten_L33 (fu + 10) n x1 q2 b2) hp hB hq hb fu
    rw [e1]
    rcases g5 with ⟨a1, a2, c1, c2, c3, c4, c5, c6⟩ | ⟨a1, a2⟩
    · subst a1
      obtain ⟨n, rfl⟩ : ∃ k, n = k + 1 := ⟨n - 1, by omega⟩
      rw [fX7_shorten_L33, if_pos rfl]
      refine ⟨_, _, E, rfl, g1, g2, g3, g4, ?_⟩
      rw [a2, qf_trn_one]
      have b1 := hB.1; have b2 := hB.2.1; have b3 := hB.2.2.1
      have c1 := gk_np b1.1 c1
      have c2 := gk_np b1.1 c2
      have c3 := gk_np b2.1 c3
      have c4 := gk_np b2.1 c4
      have c5 := gk_np b3.1 c5
      have c6 := gk_np b3.1 c6
      refine ⟨by omega, by omega, by omega, by omega⟩
    · subst a1
      have hp' := qf_pd_trn hp g1
      obtain ⟨q2, b2, E2, e2, i1, i2, i3, i4, i5⟩ := ih (qf_trn Q E) (qf_mul E M) q' b' n hp' (qB_of hp' (by have := hB.1; omega) (by have := hB.2.1; omega) (by have := hB.2.2.1; omega)) g2 g3 (by omega) (by omega)
      rw [qf_trn_trn] at i2 i4 i5
      rw [← qf_mul_assoc] at i3
      exact ⟨q2, b2, _, e2, qf_gl_mul i1 g1, i2, i3, ⟨by omega, by omega, by omega⟩, i5⟩
theorem l7_sh2 (k31 : (Nat → Int64) → Option ((Nat → Int64) × (Nat → Int64))) (b : Nat → Int64) (n : Nat) : ∃ b', fX7_shorten_L2 k31 (n + 10) 0 b = k31 b' ∧ al9 b' qf_one := ⟨_, rfl, by refine ⟨?_, ?_, ?_, ?_, ?_, ?_, ?_, ?_, ?_⟩ <;> rfl⟩
theorem l7_sh0 (fu : Nat) (q b : Nat → Int64) : fX7_shorten fu q b = fX7_shorten_L2 (fun base_6 => fX7_shorten_L33 fu fu 1 q base_6) fu 0 b := rfl
theorem l7_shorten {Q : F6} (hp : qf_pd Q) (hB : qB Q) {q : Nat → Int64} (hq : al6 q Q) (b : Nat → Int64) {F : Nat} (hF : 4000000000000 ≤ F) : ∃ q' b' E, fX7_shorten F q b = some (q', b') ∧ qf_gl E ∧ al6 q' (qf_trn Q E) ∧ al9 b' E ∧ ((qf_trn Q E).1 ≤ Q.1 ∧ (qf_trn Q E).2.1 ≤ Q.2.1 ∧ (qf_trn Q E).2.2.1 ≤ Q.2.2.1) ∧ pw_ (qf_trn Q E) := by
  obtain ⟨f, rfl⟩ : ∃ f, F = f + 10 := ⟨F - 10, by omega⟩
  obtain ⟨b1, e1, h1⟩ := l7_sh2 (fun base_6 => fX7_shorten_L33 (f + 10) (f + 10) 1 q base_6) b f
  rw [l7_sh0, e1]
  have hs : qf_sum Q ≤ ((qf_sum Q).toNat : Int) := by omega
  have hs2 : qf_sum Q ≤ 3000000000000 := by
    have := hB.1; have := hB.2.1; have := hB.2.2.1
    unfold qf_sum
    omega
  obtain ⟨q2, b2, E, e2, g1, g2, g3, g4, g5⟩ := l7_loop f (qf_sum Q).toNat Q qf_one q b1 (f + 10) hp hB hq h1 hs (by omega)
  rw [qf_mul_one] at g3
  exact ⟨q2, b2, E, e2, g1, g2, g3, g4, g5⟩
