/-! turns go into 48, to the end -/
theorem rd_mul {m : Int} {g s : T9} (hs : rd9 m s = rd9 m qf_one) : rd9 m (qf_mul g s) = rd9 m g := by
  have k : ∀ v : V3, rd3 m (qf_lin s v) = rd3 m v := by
    intro v
    have h1 := rd_lin m s v
    rw [hs, rd_lin, qf_lin_one] at h1
    exact h1.symm
  simp only [rd9, qf_mul]
  rw [k, k, k]
theorem aut_conj {L : F6} (hS : qr_S L) {G : List T9} (h : aut_ L G) {g s : T9} (hg : g ∈ G) (hs : s ∈ G) (hs1 : rd9 ((2 : Nat) : Int) s = rd9 ((2 : Nat) : Int) qf_one) : ∃ a b c : Int, (a = 1 ∨ a = -1) ∧ (b = 1 ∨ b = -1) ∧ (c = 1 ∨ c = -1) ∧ qf_trn L (sgT a b c) = L ∧ qf_mul g s = qf_mul (sgT a b c) g := by
  have hgl := ((h.2 g).mp hg).1
  have hin := aut_mul h (aut_mul h hg hs) (aut_inv h hg)
  have h1 : rd9 ((2 : Nat) : Int) (qf_mul (qf_mul g s) (qf_inv g)) = rd9 ((2 : Nat) : Int) qf_one := by
    have e1 := gA_left (rd_mul (g := g) hs1) (qf_inv g)
    unfold gA at e1
    rw [e1, qf_mul_inv hgl]
  have hg2 := (h.2 _).mp hin
  obtain ⟨b1, b2, b3⟩ := aut_box hS hg2
  have hm : qf_mul (qf_mul (qf_mul g s) (qf_inv g)) g = qf_mul g s := by rw [qf_mul_assoc, qf_inv_mul hgl, qf_mul_one]
  generalize qf_mul (qf_mul g s) (qf_inv g) = t at *
  obtain ⟨⟨m0, m1, m2⟩, ⟨m3, m4, m5⟩, ⟨m6, m7, m8⟩⟩ := t
  simp only [rd9, rd3, qf_one, Prod.mk.injEq] at h1
  simp only [qr_bx] at b1 b2 b3
  have z : m1 = 0 ∧ m2 = 0 ∧ m3 = 0 ∧ m5 = 0 ∧ m6 = 0 ∧ m7 = 0 := by omega
  obtain ⟨z1, z2, z3, z4, z5, z6⟩ := z
  subst z1; subst z2; subst z3; subst z4; subst z5; subst z6
  exact ⟨m0, m4, m8, by omega, by omega, by omega, hg2.2, hm.symm⟩
theorem sgs_len {L : F6} : (sgs.filter (fun M => decide (qf_trn L M = L))).length = 2 + (if L.2.2.2.1 = 0 ∧ L.2.2.2.2.1 = 0 then 2 else 0) + (if L.2.2.2.1 = 0 ∧ L.2.2.2.2.2 = 0 then 2 else 0) + (if L.2.2.2.2.1 = 0 ∧ L.2.2.2.2.2 = 0 then 2 else 0) := by
  obtain ⟨a, b, c, d, e, f⟩ := L
  have k : ∀ x y z : Int, (x = 1 ∨ x = -1) → (y = 1 ∨ y = -1) → (z = 1 ∨ z = -1) → (qf_trn (a, b, c, d, e, f) (sgT x y z) = (a, b, c, d, e, f) ↔ (d = 0 ∨ y * z = 1) ∧ (e = 0 ∨ x * z = 1) ∧ (f = 0 ∨ x * y = 1)) := by
    intro x y z hx hy hz
    rw [sg_trn]
    simp only [Prod.mk.injEq]
    rcases hx with hx | hx <;> rcases hy with hy | hy <;> rcases hz with hz | hz <;> subst hx <;> subst hy <;> subst hz <;> omega
  unfold sgs
  have k1 := k 1 1 1 (by decide) (by decide) (by decide)
  have k2 := k 1 1 (-1) (by decide) (by decide) (by decide)
  have k3 := k 1 (-1) 1 (by decide) (by decide) (by decide)
  have k4 := k 1 (-1) (-1) (by decide) (by decide) (by decide)
  have k5 := k (-1) 1 1 (by decide) (by decide) (by decide)
  have k6 := k (-1) 1 (-1) (by decide) (by decide) (by decide)
  have k7 := k (-1) (-1) 1 (by decide) (by decide) (by decide)
  have k8 := k (-1) (-1) (-1) (by decide) (by decide) (by decide)
  simp only [List.filter_cons, List.filter_nil, decide_eq_true_eq, k1, k2, k3, k4, k5, k6, k7, k8]
  by_cases hd : d = 0 <;> by_cases he : e = 0 <;> by_cases hf : f = 0 <;> simp [hd, he, hf]
theorem X2_sub {P : T9 → Bool} {L : F6} {G : List T9} (h : aut_ L G) (hc : ∀ g ∈ G, ∀ x ∈ Xm 2, P x = true → P (gA ((2 : Nat) : Int) g x) = true) : G.length ∣ (G.filter (fun g => decide (rd9 ((2 : Nat) : Int) g = rd9 ((2 : Nat) : Int) qf_one))).length * ((Xm 2).filter P).length := by
  refine aut_act h (List.Pairwise.filter _ (Xm_nd 2)) (fun x hx => ?_) (fun x hx => pr_dvd pr2 (List.mem_filter.mp hx).1) (fun g hg x hx => ?_)
  · obtain ⟨x1, x2, x3, _⟩ := Xm_mem.mp (List.mem_filter.mp hx).1
    unfold rd9
    rw [Rm_id x1, Rm_id x2, Rm_id x3]
  · obtain ⟨hx1, hx2⟩ := List.mem_filter.mp hx
    exact List.mem_filter.mpr ⟨Xm_gA (by decide) pr2 (gl_mod (Or.inl rfl) ((h.2 g).mp hg).1) hx1, hc g hg x hx1 hx2⟩
def blk0 (x : T9) : Bool := decide (x.2.1.1 = 0 ∧ x.2.2.1 = 0 ∧ x.1 = (1, 0, 0))
theorem blk0_len : ((Xm 2).filter blk0).length = 6 := by decide +kernel
def blk1 (x : T9) : Bool := decide (x.1.2.1 = 0 ∧ x.2.2.2.1 = 0 ∧ x.2.1 = (0, 1, 0))
theorem blk1_len : ((Xm 2).filter blk1).length = 6 := by decide +kernel
def blk2 (x : T9) : Bool := decide (x.1.2.2 = 0 ∧ x.2.1.2.2 = 0 ∧ x.2.2 = (0, 0, 1))
theorem blk2_len : ((Xm 2).filter blk2).length = 6 := by decide +kernel
theorem aut_blk0 {L : F6} (hS : qr_S L) {G : List T9} (h : aut_ L G) (h1 : L.2.2.2.2.1 = 0) (h2 : L.2.2.2.2.2 = 0) (h3 : L.2.2.2.1 ≠ 0) : G.length ∣ 24 := by
  have hK := aut_K hS h
  have hlen := sgs_len (L := L)
  have hk : (G.filter (fun g => decide (rd9 ((2 : Nat) : Int) g = rd9 ((2 : Nat) : Int) qf_one))).length = 4 := by
    rw [hK, hlen]
    simp [h1, h2, h3]
  have hs : sgT (-1) 1 1 ∈ G := (h.2 _).mpr ⟨by unfold qf_gl; decide, by
    obtain ⟨a, b, c, d, e, f⟩ := L
    rw [sg_trn]
    simp only [Prod.mk.injEq] at h1 h2 h3 ⊢
    omega⟩
  have hblk : ∀ g ∈ G, g.2.1.1 = 0 ∧ g.2.2.1 = 0 ∧ g.1.2.1 = 0 ∧ g.1.2.2 = 0 := by
    intro g hg
    obtain ⟨a, b, c, ha, hb, hc, ht, hm⟩ := aut_conj hS h hg hs (by decide)
    have hdet := qf_gl_ne ((h.2 g).mp hg).1
    rw [sg_trn] at ht
    have hab := congrArg (fun q : F6 => q.2.2.2.1) ht
    simp only at hab
    obtain ⟨⟨m0, m1, m2⟩, ⟨m3, m4, m5⟩, ⟨m6, m7, m8⟩⟩ := g
    simp only [qf_mul, qf_lin, sgT, Prod.mk.injEq] at hm
    simp only [qf_det] at hdet
    dsimp only
    clear hK hlen hk hs ht h1 h2
    rcases ha with ha | ha <;> rcases hb with hb | hb <;> rcases hc with hc | hc <;> subst ha <;> subst hb <;> subst hc
    all_goals first
      | (exfalso; omega)
      | (refine ⟨?_, ?_, ?_, ?_⟩ <;> omega)
      | (exfalso; apply hdet; have y1 : m0 = 0 := by omega
         have y2 : m3 = 0 := by omega
         have y3 : m6 = 0 := by omega
         rw [y1, y2, y3]; grind)
      | (exfalso; apply hdet; have y1 : m4 = 0 := by omega
         have y2 : m5 = 0 := by omega
         have y3 : m7 = 0 := by omega
         have y4 : m8 = 0 := by omega
         rw [y1, y2, y3, y4]; grind)
  have hd := X2_sub (P := blk0) h (fun g hg x hx hP => by
    obtain ⟨g1, g2, g3, g4⟩ := hblk g hg
    have hb := aut_box hS ((h.2 g).mp hg)
    have hdet := qf_gl_ne ((h.2 g).mp hg).1
    unfold blk0 at hP ⊢
    simp only [decide_eq_true_eq] at hP ⊢
    obtain ⟨p1, p2, p3⟩ := hP
    obtain ⟨⟨m0, m1, m2⟩, ⟨m3, m4, m5⟩, ⟨m6, m7, m8⟩⟩ := g
    obtain ⟨⟨x0, x1, x2⟩, ⟨x3, x4, x5⟩, ⟨x6, x7, x8⟩⟩ := x
    simp only [Prod.mk.injEq] at p1 p2 p3 g1 g2 g3 g4
    simp only [qr_bx] at hb
    simp only [qf_det] at hdet
    obtain ⟨q1, q2, q3⟩ := p3
    subst p1; subst p2; subst q1; subst q2; subst q3; subst g1; subst g2; subst g3; subst g4
    have hne : m0 ≠ 0 := fun e => by
      apply hdet
      rw [e]
      grind
    have hpm : m0 = 1 ∨ m0 = -1 := by omega
    simp only [gA, rd9, rd3, qf_mul, qf_lin, Prod.mk.injEq, Int.mul_zero, Int.zero_mul, Int.add_zero, Int.zero_add, Int.mul_one]
    refine ⟨by decide, by decide, ?_⟩
    rcases hpm with e | e <;> rw [e] <;> decide)
  rw [hk, blk0_len] at hd
  exact hd
theorem aut_blk1 {L : F6} (hS : qr_S L) {G : List T9} (h : aut_ L G) (h1 : L.2.2.2.1 = 0) (h2 : L.2.2.2.2.2 = 0) (h3 : L.2.2.2.2.1 ≠ 0) : G.length ∣ 24 := by
  have hK := aut_K hS h
  have hlen := sgs_len (L := L)
  have hk : (G.filter (fun g => decide (rd9 ((2 : Nat) : Int) g = rd9 ((2 : Nat) : Int) qf_one))).length = 4 := by
    rw [hK, hlen]
    simp [h1, h2, h3]
  have hs : sgT 1 (-1) 1 ∈ G := (h.2 _).mpr ⟨by unfold qf_gl; decide, by
    obtain ⟨a, b, c, d, e, f⟩ := L
    rw [sg_trn]
    simp only [Prod.mk.injEq] at h1 h2 h3 ⊢
    omega⟩
  have hblk : ∀ g ∈ G, g.1.2.1 = 0 ∧ g.2.2.2.1 = 0 ∧ g.2.1.1 = 0 ∧ g.2.1.2.2 = 0 := by
    intro g hg
    obtain ⟨a, b, c, ha, hb, hc, ht, hm⟩ := aut_conj hS h hg hs (by decide)
    have hdet := qf_gl_ne ((h.2 g).mp hg).1
    rw [sg_trn] at ht
    have hab := congrArg (fun q : F6 => q.2.2.2.2.1) ht
    simp only at hab
    obtain ⟨⟨m0, m1, m2⟩, ⟨m3, m4, m5⟩, ⟨m6, m7, m8⟩⟩ := g
    simp only [qf_mul, qf_lin, sgT, Prod.mk.injEq] at hm
    simp only [qf_det] at hdet
    dsimp only
    clear hK hlen hk hs ht h1 h2
    rcases ha with ha | ha <;> rcases hb with hb | hb <;> rcases hc with hc | hc <;> subst ha <;> subst hb <;> subst hc
    all_goals first
      | (exfalso; omega)
      | (refine ⟨?_, ?_, ?_, ?_⟩ <;> omega)
      | (exfalso; apply hdet; have y1 : m1 = 0 := by omega
         have y2 : m4 = 0 := by omega
         have y3 : m7 = 0 := by omega
         rw [y1, y2, y3]; grind)
      | (exfalso; apply hdet; have y1 : m0 = 0 := by omega
         have y2 : m2 = 0 := by omega
         have y3 : m6 = 0 := by omega
         have y4 : m8 = 0 := by omega
         rw [y1, y2, y3, y4]; grind)
  have hd := X2_sub (P := blk1) h (fun g hg x hx hP => by
    obtain ⟨g1, g2, g3, g4⟩ := hblk g hg
    have hb := aut_box hS ((h.2 g).mp hg)
    have hdet := qf_gl_ne ((h.2 g).mp hg).1
    unfold blk1 at hP ⊢
    simp only [decide_eq_true_eq] at hP ⊢
    obtain ⟨p1, p2, p3⟩ := hP
    obtain ⟨⟨m0, m1, m2⟩, ⟨m3, m4, m5⟩, ⟨m6, m7, m8⟩⟩ := g
    obtain ⟨⟨x0, x1, x2⟩, ⟨x3, x4, x5⟩, ⟨x6, x7, x8⟩⟩ := x
    simp only [Prod.mk.injEq] at p1 p2 p3 g1 g2 g3 g4
    simp only [qr_bx] at hb
    simp only [qf_det] at hdet
    obtain ⟨q1, q2, q3⟩ := p3
    subst p1; subst p2; subst q1; subst q2; subst q3; subst g1; subst g2; subst g3; subst g4
    have hne : m4 ≠ 0 := fun e => by
      apply hdet
      rw [e]
      grind
    have hpm : m4 = 1 ∨ m4 = -1 := by omega
    simp only [gA, rd9, rd3, qf_mul, qf_lin, Prod.mk.injEq, Int.mul_zero, Int.zero_mul, Int.add_zero, Int.zero_add, Int.mul_one]
    refine ⟨by decide, by decide, ?_⟩
    rcases hpm with e | e <;> rw [e] <;> decide)
  rw [hk, blk1_len] at hd
  exact hd
theorem aut_blk2 {L : F6} (hS : qr_S L) {G : List T9} (h : aut_ L G) (h1 : L.2.2.2.1 = 0) (h2 : L.2.2.2.2.1 = 0) (h3 : L.2.2.2.2.2 ≠ 0) : G.length ∣ 24 := by
  have hK := aut_K hS h
  have hlen := sgs_len (L := L)
  have hk : (G.filter (fun g => decide (rd9 ((2 : Nat) : Int) g = rd9 ((2 : Nat) : Int) qf_one))).length = 4 := by
    rw [hK, hlen]
    simp [h1, h2, h3]
  have hs : sgT 1 1 (-1) ∈ G := (h.2 _).mpr ⟨by unfold qf_gl; decide, by
    obtain ⟨a, b, c, d, e, f⟩ := L
    rw [sg_trn]
    simp only [Prod.mk.injEq] at h1 h2 h3 ⊢
    omega⟩
  have hblk : ∀ g ∈ G, g.1.2.2 = 0 ∧ g.2.1.2.2 = 0 ∧ g.2.2.1 = 0 ∧ g.2.2.2.1 = 0 := by
    intro g hg
    obtain ⟨a, b, c, ha, hb, hc, ht, hm⟩ := aut_conj hS h hg hs (by decide)
    have hdet := qf_gl_ne ((h.2 g).mp hg).1
    rw [sg_trn] at ht
    have hab := congrArg (fun q : F6 => q.2.2.2.2.2) ht
    simp only at hab
    obtain ⟨⟨m0, m1, m2⟩, ⟨m3, m4, m5⟩, ⟨m6, m7, m8⟩⟩ := g
    simp only [qf_mul, qf_lin, sgT, Prod.mk.injEq] at hm
    simp only [qf_det] at hdet
    dsimp only
    clear hK hlen hk hs ht h1 h2
    rcases ha with ha | ha <;> rcases hb with hb | hb <;> rcases hc with hc | hc <;> subst ha <;> subst hb <;> subst hc
    all_goals first
      | (exfalso; omega)
      | (refine ⟨?_, ?_, ?_, ?_⟩ <;> omega)
      | (exfalso; apply hdet; have y1 : m2 = 0 := by omega
         have y2 : m5 = 0 := by omega
         have y3 : m8 = 0 := by omega
         rw [y1, y2, y3]; grind)
      | (exfalso; apply hdet; have y1 : m0 = 0 := by omega
         have y2 : m1 = 0 := by omega
         have y3 : m3 = 0 := by omega
         have y4 : m4 = 0 := by omega
         rw [y1, y2, y3, y4]; grind)
  have hd := X2_sub (P := blk2) h (fun g hg x hx hP => by
    obtain ⟨g1, g2, g3, g4⟩ := hblk g hg
    have hb := aut_box hS ((h.2 g).mp hg)
    have hdet := qf_gl_ne ((h.2 g).mp hg).1
    unfold blk2 at hP ⊢
    simp only [decide_eq_true_eq] at hP ⊢
    obtain ⟨p1, p2, p3⟩ := hP
    obtain ⟨⟨m0, m1, m2⟩, ⟨m3, m4, m5⟩, ⟨m6, m7, m8⟩⟩ := g
    obtain ⟨⟨x0, x1, x2⟩, ⟨x3, x4, x5⟩, ⟨x6, x7, x8⟩⟩ := x
    simp only [Prod.mk.injEq] at p1 p2 p3 g1 g2 g3 g4
    simp only [qr_bx] at hb
    simp only [qf_det] at hdet
    obtain ⟨q1, q2, q3⟩ := p3
    subst p1; subst p2; subst q1; subst q2; subst q3; subst g1; subst g2; subst g3; subst g4
    have hne : m8 ≠ 0 := fun e => by
      apply hdet
      rw [e]
      grind
    have hpm : m8 = 1 ∨ m8 = -1 := by omega
    simp only [gA, rd9, rd3, qf_mul, qf_lin, Prod.mk.injEq, Int.mul_zero, Int.zero_mul, Int.add_zero, Int.zero_add, Int.mul_one]
    refine ⟨by decide, by decide, ?_⟩
    rcases hpm with e | e <;> rw [e] <;> decide)
  rw [hk, blk2_len] at hd
  exact hd
