/-! turns go into 48: no touches; the end -/
def mono (x : T9) : Bool := decide (x.1.1 + x.1.2.1 + x.1.2.2 = 1 ∧ x.2.1.1 + x.2.1.2.1 + x.2.1.2.2 = 1 ∧ x.2.2.1 + x.2.2.2.1 + x.2.2.2.2 = 1)
theorem mono_len : ((Xm 2).filter mono).length = 6 := by decide +kernel
theorem one_row {a b c : Int} (ha : -1 ≤ a ∧ a ≤ 1) (hb : -1 ≤ b ∧ b ≤ 1) (hc : -1 ≤ c ∧ c ≤ 1) (h1 : a = 0 ∨ (b = 0 ∧ c = 0)) (h2 : b = 0 ∨ (a = 0 ∧ c = 0)) (h0 : ¬ (a = 0 ∧ b = 0 ∧ c = 0)) : ∃ s : Int, (s = 1 ∨ s = -1) ∧ ((a = s ∧ b = 0 ∧ c = 0) ∨ (a = 0 ∧ b = s ∧ c = 0) ∨ (a = 0 ∧ b = 0 ∧ c = s)) := by
  by_cases g1 : a = 0
  · by_cases g2 : b = 0
    · exact ⟨c, by omega, by omega⟩
    · exact ⟨b, by omega, by omega⟩
  · exact ⟨a, by omega, by omega⟩
theorem row_sum {a b c : Int} (h : ∃ s : Int, (s = 1 ∨ s = -1) ∧ ((a = s ∧ b = 0 ∧ c = 0) ∨ (a = 0 ∧ b = s ∧ c = 0) ∨ (a = 0 ∧ b = 0 ∧ c = s))) {x : T9} (h1 : x.1 ∈ Rm 2) (h2 : x.2.1 ∈ Rm 2) (h3 : x.2.2 ∈ Rm 2) (p1 : x.1.1 + x.1.2.1 + x.1.2.2 = 1) (p2 : x.2.1.1 + x.2.1.2.1 + x.2.1.2.2 = 1) (p3 : x.2.2.1 + x.2.2.2.1 + x.2.2.2.2 = 1) : (rd3 ((2 : Nat) : Int) (qf_lin x (a, b, c))).1 + (rd3 ((2 : Nat) : Int) (qf_lin x (a, b, c))).2.1 + (rd3 ((2 : Nat) : Int) (qf_lin x (a, b, c))).2.2 = 1 := by
  have m1 := Rm_mem.mp h1
  have m2 := Rm_mem.mp h2
  have m3 := Rm_mem.mp h3
  obtain ⟨⟨x0, x1, x2⟩, ⟨x3, x4, x5⟩, ⟨x6, x7, x8⟩⟩ := x
  simp only at m1 m2 m3 p1 p2 p3
  obtain ⟨s, hs, hh⟩ := h
  simp only [rd3, qf_lin]
  rcases hs with hs | hs <;> subst hs <;> rcases hh with ⟨e1, e2, e3⟩ | ⟨e1, e2, e3⟩ | ⟨e1, e2, e3⟩ <;> subst e1 <;> subst e2 <;> subst e3 <;> omega
theorem aut_mono {L : F6} (hS : qr_S L) {G : List T9} (h : aut_ L G) (h1 : L.2.2.2.1 = 0) (h2 : L.2.2.2.2.1 = 0) (h3 : L.2.2.2.2.2 = 0) : G.length ∣ 48 := by
  have hK := aut_K hS h
  have hlen := sgs_len (L := L)
  have hk : (G.filter (fun g => decide (rd9 ((2 : Nat) : Int) g = rd9 ((2 : Nat) : Int) qf_one))).length = 8 := by
    rw [hK, hlen]
    simp [h1, h2, h3]
  have hs : ∀ a b c : Int, (a = 1 ∨ a = -1) → (b = 1 ∨ b = -1) → (c = 1 ∨ c = -1) → sgT a b c ∈ G := by
    intro a b c ha hb hc
    refine (h.2 _).mpr ⟨?_, ?_⟩
    · unfold qf_gl
      rcases ha with ha | ha <;> rcases hb with hb | hb <;> rcases hc with hc | hc <;> subst ha <;> subst hb <;> subst hc <;> decide
    · obtain ⟨x, y, z, d, e, f⟩ := L
      rw [sg_trn]
      simp only [Prod.mk.injEq] at h1 h2 h3 ⊢
      rcases ha with ha | ha <;> rcases hb with hb | hb <;> rcases hc with hc | hc <;> subst ha <;> subst hb <;> subst hc <;> omega
  have s0 := hs (-1) 1 1 (by decide) (by decide) (by decide)
  have s1 := hs 1 (-1) 1 (by decide) (by decide) (by decide)
  have hd := X2_sub (P := mono) h (fun g hg x hx hP => by
    obtain ⟨b1, b2, b3⟩ := aut_box hS ((h.2 g).mp hg)
    have hdet := qf_gl_ne ((h.2 g).mp hg).1
    have hr := qr_rows hdet
    obtain ⟨a, b, c, ha, hb, hc, _, hm⟩ := aut_conj hS h hg s0 (by decide)
    obtain ⟨a', b', c', ha', hb', hc', _, hm'⟩ := aut_conj hS h hg s1 (by decide)
    obtain ⟨x1, x2, x3, _⟩ := Xm_mem.mp hx
    unfold mono at hP ⊢
    simp only [decide_eq_true_eq] at hP ⊢
    obtain ⟨p1, p2, p3⟩ := hP
    obtain ⟨⟨m0, m1, m2⟩, ⟨m3, m4, m5⟩, ⟨m6, m7, m8⟩⟩ := g
    simp only [qf_mul, qf_lin, sgT, Prod.mk.injEq] at hm hm'
    simp only [qr_bx] at b1 b2 b3
    simp only [ne_eq, Prod.mk.injEq] at hr
    obtain ⟨⟨e0, e1, e2⟩, ⟨e3, e4, e5⟩, ⟨e6, e7, e8⟩⟩ := hm
    obtain ⟨⟨f0, f1, f2⟩, ⟨f3, f4, f5⟩, ⟨f6, f7, f8⟩⟩ := hm'
    have r1 : m0 = 0 ∨ (m1 = 0 ∧ m2 = 0) := by rcases ha with ha | ha <;> subst ha <;> omega
    have r2 : m3 = 0 ∨ (m4 = 0 ∧ m5 = 0) := by rcases hb with ha | ha <;> subst ha <;> omega
    have r3 : m6 = 0 ∨ (m7 = 0 ∧ m8 = 0) := by rcases hc with ha | ha <;> subst ha <;> omega
    have t1 : m1 = 0 ∨ (m0 = 0 ∧ m2 = 0) := by rcases ha' with ha | ha <;> subst ha <;> omega
    have t2 : m4 = 0 ∨ (m3 = 0 ∧ m5 = 0) := by rcases hb' with ha | ha <;> subst ha <;> omega
    have t3 : m7 = 0 ∨ (m6 = 0 ∧ m8 = 0) := by rcases hc' with ha | ha <;> subst ha <;> omega
    have o1 := one_row b1.1 b1.2.1 b1.2.2 r1 t1 hr.1
    have o2 := one_row b2.1 b2.2.1 b2.2.2 r2 t2 hr.2.1
    have o3 := one_row b3.1 b3.2.1 b3.2.2 r3 t3 hr.2.2
    exact ⟨row_sum o1 x1 x2 x3 p1 p2 p3, row_sum o2 x1 x2 x3 p1 p2 p3, row_sum o3 x1 x2 x3 p1 p2 p3⟩)
  rw [hk, mono_len] at hd
  exact hd
theorem aut_48 {L : F6} (hS : qr_S L) {G : List T9} (h : aut_ L G) : G.length ∣ 48 := by
  have h24 : ∀ k, k ∣ 24 → k ∣ 48 := fun k hk => Nat.dvd_trans hk (by decide)
  by_cases hd : L.2.2.2.1 = 0
  · by_cases he : L.2.2.2.2.1 = 0
    · by_cases hf : L.2.2.2.2.2 = 0
      · exact aut_mono hS h hd he hf
      · exact h24 _ (aut_blk2 hS h hd he hf)
    · by_cases hf : L.2.2.2.2.2 = 0
      · exact h24 _ (aut_blk1 hS h hd hf he)
      · have hk : (G.filter (fun g => decide (rd9 ((2 : Nat) : Int) g = rd9 ((2 : Nat) : Int) qf_one))).length = 2 := by
          rw [aut_K hS h, sgs_len]
          simp [hd, he, hf]
        have h2 := aut_act_m h (Or.inl rfl)
        rw [hk, X2_len] at h2
        exact Nat.dvd_gcd h2 (aut_3 hS h)
  · by_cases he : L.2.2.2.2.1 = 0
    · by_cases hf : L.2.2.2.2.2 = 0
      · exact h24 _ (aut_blk0 hS h he hf hd)
      · have hk : (G.filter (fun g => decide (rd9 ((2 : Nat) : Int) g = rd9 ((2 : Nat) : Int) qf_one))).length = 2 := by
          rw [aut_K hS h, sgs_len]
          simp [hd, he, hf]
        have h2 := aut_act_m h (Or.inl rfl)
        rw [hk, X2_len] at h2
        exact Nat.dvd_gcd h2 (aut_3 hS h)
    · have hk : (G.filter (fun g => decide (rd9 ((2 : Nat) : Int) g = rd9 ((2 : Nat) : Int) qf_one))).length = 2 := by
        rw [aut_K hS h, sgs_len]
        simp [hd, he]
      have h2 := aut_act_m h (Or.inl rfl)
      rw [hk, X2_len] at h2
      exact Nat.dvd_gcd h2 (aut_3 hS h)
/-- as many tables lead to the least form as turn it into itself: they go into 48 -/
theorem least_48 {q L : F6} {T : T9} {n : Nat} (hp : qf_pd q) (h : qf_least q L T n) : n ∣ 48 ∧ 0 < n := by
  obtain ⟨hS, hpL, hD, hn, hT, eT⟩ := least_S hp h
  refine ⟨?_, hn⟩
  obtain ⟨h1, l, h2, h3, h4, h5, h6⟩ := h
  have hG : aut_ L (l.map (fun X => qf_mul X (qf_inv T))) := by
    refine ⟨nd_map (fun x y e => qf_mul_inj (qf_gl_inv hT) e) h2, fun M => ?_⟩
    rw [List.mem_map]
    constructor
    · rintro ⟨X, hX, e⟩
      obtain ⟨x1, x2⟩ := (h3 X).mp hX
      rw [← e]
      refine ⟨qf_gl_mul x1 (qf_gl_inv hT), ?_⟩
      rw [← qf_trn_trn, ← eT, qf_trn_inv hT, x2, eT]
    · rintro ⟨m1, m2⟩
      refine ⟨qf_mul M T, (h3 _).mpr ⟨qf_gl_mul m1 hT, by rw [← qf_trn_trn, eT, m2]⟩, ?_⟩
      simp only [qf_mul_assoc, qf_mul_inv hT, qf_mul_one]
  have := aut_48 hS hG
  rw [List.length_map, h4] at this
  exact this
