/-! lines: there are P and 1 at least -/
def pt1 (p : Nat) : List V3 := [(0, 0, 1)]
def pt2 (p : Nat) : List V3 := (iv p 0).map (fun z => (0, 1, z))
def pt3 (p : Nat) (y : Int) : List V3 := (iv p 0).map (fun z => (1, y, z))
def ptsP (p : Nat) : List V3 := pt1 p ++ (pt2 p ++ (iv p 0).flatMap (fun y => pt3 p y))
def lns (Q : F6) (p : Nat) : List V3 := (ptsP p).filter (fun v => decide (qf_val Q v % (p : Int) = 0))
/-- how many z solve it -/
def cz (p : Nat) (c b g : Int) : Nat := ((iv p 0).filter (fun z => decide ((c * z * z + b * z + g) % (p : Int) = 0))).length
theorem fl_len {α β : Type} (f : α → β) (P : β → Bool) (l : List α) : ((l.map f).filter P).length = (l.filter (fun x => P (f x))).length := by
  induction l with
  | nil => rfl
  | cons x t ih =>
    rw [List.map_cons]
    by_cases h : P (f x) = true
    · rw [List.filter_cons_of_pos h, List.filter_cons_of_pos (p := fun x => P (f x)) h, List.length_cons, List.length_cons, ih]
    · rw [List.filter_cons_of_neg h, List.filter_cons_of_neg (p := fun x => P (f x)) h, ih]
theorem fl_flat {α β : Type} (f : α → List β) (P : β → Bool) (l : List α) : ((l.flatMap f).filter P).length = (l.map (fun x => ((f x).filter P).length)).sum := by
  induction l with
  | nil => rfl
  | cons x t ih => rw [List.flatMap_cons, List.filter_append, List.length_append, ih, List.map_cons, List.sum_cons]
theorem lns_len (a b c d e f : Int) (p : Nat) : (lns (a, b, c, d, e, f) p).length = (if c % (p : Int) = 0 then 1 else 0) + (cz p c d b + ((iv p 0).map (fun y => cz p c (e + d * y) (a + f * y + b * y * y))).sum) := by
  unfold lns ptsP
  rw [List.filter_append, List.filter_append, List.length_append, List.length_append, fl_flat]
  congr 1
  · unfold pt1
    have e1 : qf_val (a, b, c, d, e, f) (0, 0, 1) = c := by simp [qf_val]
    by_cases h : c % (p : Int) = 0
    · rw [List.filter_cons_of_pos (by rw [e1]; simpa using h), if_pos h]; rfl
    · rw [List.filter_cons_of_neg (by rw [e1]; simpa using h), if_neg h]; rfl
  · congr 1
    · unfold pt2 cz
      rw [fl_len]
      congr 2
      funext z
      have e1 : qf_val (a, b, c, d, e, f) (0, 1, z) = c * z * z + d * z + b := by simp only [qf_val]; grind
      rw [e1]
    · congr 2
      funext y
      unfold pt3 cz
      rw [fl_len]
      congr 2
      funext z
      have e1 : qf_val (a, b, c, d, e, f) (1, y, z) = c * z * z + (e + d * y) * z + (a + f * y + b * y * y) := by simp only [qf_val]; grind
      rw [e1]
/-- the square sign by 3 -/
def ch3 (x : Int) : Int := if x % 3 = 0 then 0 else if x % 3 = 1 then 1 else -1
theorem ch3_m (x : Int) : ch3 (x % 3) = ch3 x := by unfold ch3; rw [Int.emod_emod]
theorem iv3 : iv 3 0 = [0, 1, 2] := by decide
theorem cz3_m (c b g : Int) : cz 3 c b g = cz 3 (c % 3) (b % 3) (g % 3) := by
  unfold cz
  rw [iv3]
  have h0 : ((c * 0 * 0 + b * 0 + g) % ((3 : Nat) : Int) = 0) ↔ (((c % 3) * 0 * 0 + (b % 3) * 0 + (g % 3)) % ((3 : Nat) : Int) = 0) := by omega
  have h1 : ((c * 1 * 1 + b * 1 + g) % ((3 : Nat) : Int) = 0) ↔ (((c % 3) * 1 * 1 + (b % 3) * 1 + (g % 3)) % ((3 : Nat) : Int) = 0) := by omega
  have h2 : ((c * 2 * 2 + b * 2 + g) % ((3 : Nat) : Int) = 0) ↔ (((c % 3) * 2 * 2 + (b % 3) * 2 + (g % 3)) % ((3 : Nat) : Int) = 0) := by omega
  simp only [List.filter_cons, List.filter_nil, decide_eq_true_eq, h0, h1, h2]
theorem cz3_d : ∀ r : Nat, r < 3 → ∀ s : Nat, s < 3 → ∀ t : Nat, t < 3 → r ≠ 0 → (cz 3 (r : Int) (s : Int) (t : Int) : Int) = 1 + ch3 ((s : Int) * (s : Int) - 4 * (r : Int) * (t : Int)) := by decide +kernel
theorem cz3_c {c b g : Int} (hc : c % 3 ≠ 0) : (cz 3 c b g : Int) = 1 + ch3 (b * b - 4 * c * g) := by
  have h := cz3_d (c % 3).toNat (by omega) (b % 3).toNat (by omega) (g % 3).toNat (by omega) (by omega)
  have e1 : (((c % 3).toNat : Nat) : Int) = c % 3 := by omega
  have e2 : (((b % 3).toNat : Nat) : Int) = b % 3 := by omega
  have e3 : (((g % 3).toNat : Nat) : Int) = g % 3 := by omega
  rw [e1, e2, e3, ← cz3_m] at h
  rw [h, ← ch3_m, ← ch3_m (b * b - 4 * c * g)]
  congr 2
  obtain ⟨c', hc'⟩ : ∃ k, c = 3 * k + c % 3 := ⟨c / 3, by omega⟩
  obtain ⟨b', hb'⟩ : ∃ k, b = 3 * k + b % 3 := ⟨b / 3, by omega⟩
  obtain ⟨g', hg'⟩ : ∃ k, g = 3 * k + g % 3 := ⟨g / 3, by omega⟩
  generalize c % 3 = c0 at *
  generalize b % 3 = b0 at *
  generalize g % 3 = g0 at *
  subst hc'; subst hb'; subst hg'
  have e9 : (3 * b' + b0) * (3 * b' + b0) - 4 * (3 * c' + c0) * (3 * g' + g0) = (b0 * b0 - 4 * c0 * g0) + 3 * (3 * b' * b' + 2 * b' * b0 - 4 * (3 * c' * g' + c' * g0 + c0 * g')) := by grind
  rw [e9, Int.add_mul_emod_self_left]
theorem cs3_d : ∀ r : Nat, r < 3 → ∀ s : Nat, s < 3 → ∀ t : Nat, t < 3 → ((s : Int) * (s : Int) - 4 * (r : Int) * (t : Int)) % 3 ≠ 0 → ch3 (r : Int) + (ch3 ((r : Int) * 0 * 0 + (s : Int) * 0 + (t : Int)) + ch3 ((r : Int) * 1 * 1 + (s : Int) * 1 + (t : Int)) + ch3 ((r : Int) * 2 * 2 + (s : Int) * 2 + (t : Int))) = 0 := by decide +kernel
theorem cs3_c {A B C : Int} (h : (B * B - 4 * A * C) % 3 ≠ 0) : ch3 A + (ch3 (A * 0 * 0 + B * 0 + C) + ch3 (A * 1 * 1 + B * 1 + C) + ch3 (A * 2 * 2 + B * 2 + C)) = 0 := by
  have h1 := cs3_d (A % 3).toNat (by omega) (B % 3).toNat (by omega) (C % 3).toNat (by omega)
  have e1 : (((A % 3).toNat : Nat) : Int) = A % 3 := by omega
  have e2 : (((B % 3).toNat : Nat) : Int) = B % 3 := by omega
  have e3 : (((C % 3).toNat : Nat) : Int) = C % 3 := by omega
  rw [e1, e2, e3] at h1
  have h2 := h1 (by
    intro h9
    apply h
    obtain ⟨A', hA'⟩ : ∃ k, A = 3 * k + A % 3 := ⟨A / 3, by omega⟩
    obtain ⟨B', hB'⟩ : ∃ k, B = 3 * k + B % 3 := ⟨B / 3, by omega⟩
    obtain ⟨C', hC'⟩ : ∃ k, C = 3 * k + C % 3 := ⟨C / 3, by omega⟩
    generalize A % 3 = A0 at *
    generalize B % 3 = B0 at *
    generalize C % 3 = C0 at *
    subst hA'; subst hB'; subst hC'
    have e9 : (3 * B' + B0) * (3 * B' + B0) - 4 * (3 * A' + A0) * (3 * C' + C0) = (B0 * B0 - 4 * A0 * C0) + 3 * (3 * B' * B' + 2 * B' * B0 - 4 * (3 * A' * C' + A' * C0 + A0 * C')) := by grind
    rw [e9, Int.add_mul_emod_self_left]
    exact h9)
  rw [ch3_m] at h2
  have y0 : ch3 ((A % 3) * 0 * 0 + (B % 3) * 0 + (C % 3)) = ch3 (A * 0 * 0 + B * 0 + C) := by rw [← ch3_m, ← ch3_m (A * 0 * 0 + B * 0 + C)]; congr 1; omega
  have y1 : ch3 ((A % 3) * 1 * 1 + (B % 3) * 1 + (C % 3)) = ch3 (A * 1 * 1 + B * 1 + C) := by rw [← ch3_m, ← ch3_m (A * 1 * 1 + B * 1 + C)]; congr 1; omega
  have y2 : ch3 ((A % 3) * 2 * 2 + (B % 3) * 2 + (C % 3)) = ch3 (A * 2 * 2 + B * 2 + C) := by rw [← ch3_m, ← ch3_m (A * 2 * 2 + B * 2 + C)]; congr 1; omega
  rw [y0, y1, y2] at h2
  exact h2
theorem o3_d : ∀ s : Nat, s < 3 → ∀ t : Nat, t < 3 → s ≠ 0 → cz 3 0 (s : Int) (t : Int) = 1 := by decide +kernel
theorem o3_c {c b g : Int} (hc : c % 3 = 0) : (if b % 3 = 0 then 0 else 1) ≤ cz 3 c b g := by
  split
  · exact Nat.zero_le _
  · have h := o3_d (b % 3).toNat (by omega) (g % 3).toNat (by omega) (by omega)
    have e2 : (((b % 3).toNat : Nat) : Int) = b % 3 := by omega
    have e3 : (((g % 3).toNat : Nat) : Int) = g % 3 := by omega
    rw [e2, e3] at h
    rw [cz3_m, hc, h]
    exact Nat.le_refl _
theorem n3_d : ∀ d : Nat, d < 3 → ∀ e : Nat, e < 3 → d ≠ 0 → 2 ≤ (if ((e : Int) + (d : Int) * 0) % 3 = 0 then 0 else 1) + (if ((e : Int) + (d : Int) * 1) % 3 = 0 then 0 else 1) + (if ((e : Int) + (d : Int) * 2) % 3 = 0 then 0 else 1) := by decide +kernel
theorem n3_c {d e : Int} (hd : d % 3 ≠ 0) : 2 ≤ (if (e + d * 0) % 3 = 0 then 0 else 1) + (if (e + d * 1) % 3 = 0 then 0 else 1) + (if (e + d * 2) % 3 = 0 then 0 else 1) := by
  have h := n3_d (d % 3).toNat (by omega) (e % 3).toNat (by omega) (by omega)
  have e1 : (((d % 3).toNat : Nat) : Int) = d % 3 := by omega
  have e2 : (((e % 3).toNat : Nat) : Int) = e % 3 := by omega
  rw [e1, e2] at h
  have y0 : ((e % 3 + d % 3 * 0) % 3 = 0) ↔ ((e + d * 0) % 3 = 0) := by omega
  have y1 : ((e % 3 + d % 3 * 1) % 3 = 0) ↔ ((e + d * 1) % 3 = 0) := by omega
  have y2 : ((e % 3 + d % 3 * 2) % 3 = 0) ↔ ((e + d * 2) % 3 = 0) := by omega
  simp only [y0, y1, y2] at h
  exact h
theorem mp3 {a b : Int} (ha : a % 3 ≠ 0) (hb : b % 3 ≠ 0) : (a * b) % 3 ≠ 0 := by
  have k : ∀ s : Nat, s < 3 → ∀ t : Nat, t < 3 → s ≠ 0 → t ≠ 0 → ((s : Int) * (t : Int)) % 3 ≠ 0 := by decide +kernel
  have h := k (a % 3).toNat (by omega) (b % 3).toNat (by omega) (by omega) (by omega)
  have e2 : (((a % 3).toNat : Nat) : Int) = a % 3 := by omega
  have e3 : (((b % 3).toNat : Nat) : Int) = b % 3 := by omega
  rw [e2, e3, ← Int.mul_emod] at h
  exact h
theorem lns3 {Q : F6} (hD : qf_disc Q % 3 ≠ 0) : 4 ≤ (lns Q 3).length := by
  obtain ⟨a, b, c, d, e, f⟩ := Q
  rw [lns_len, iv3]
  simp only [List.map_cons, List.map_nil, List.sum_cons, List.sum_nil]
  simp only [qf_disc] at hD
  have hcast : ((3 : Nat) : Int) = 3 := rfl
  rw [hcast]
  by_cases hc : c % 3 = 0
  · rw [if_pos hc]
    have z0 := o3_c (b := e + d * 0) (g := a + f * 0 + b * 0 * 0) hc
    have z1 := o3_c (b := e + d * 1) (g := a + f * 1 + b * 1 * 1) hc
    have z2 := o3_c (b := e + d * 2) (g := a + f * 2 + b * 2 * 2) hc
    have z := o3_c (b := d) (g := b) hc
    by_cases hd : d % 3 = 0
    · have he : e % 3 ≠ 0 := by
        intro he
        apply hD
        obtain ⟨c', hc'⟩ : ∃ k, c = 3 * k := ⟨c / 3, by omega⟩
        obtain ⟨d', hd'⟩ : ∃ k, d = 3 * k := ⟨d / 3, by omega⟩
        obtain ⟨e', he'⟩ : ∃ k, e = 3 * k := ⟨e / 3, by omega⟩
        subst hc'; subst hd'; subst he'
        have e9 : 4 * a * b * (3 * c') + 3 * d' * (3 * e') * f - a * (3 * d') * (3 * d') - b * (3 * e') * (3 * e') - 3 * c' * f * f = 3 * (4 * a * b * c' + d' * (3 * e') * f - a * d' * (3 * d') - b * e' * (3 * e') - c' * f * f) := by grind
        rw [e9]
        exact Int.mul_emod_right _ _
      rw [if_neg (by omega)] at z0
      rw [if_neg (by omega)] at z1
      rw [if_neg (by omega)] at z2
      omega
    · have h9 := n3_c (d := d) (e := e) hd
      rw [if_neg hd] at z
      omega
  · rw [if_neg hc]
    have k0 := cz3_c (c := c) (b := d) (g := b) hc
    have k1 := cz3_c (c := c) (b := e + d * 0) (g := a + f * 0 + b * 0 * 0) hc
    have j0 : (e + d * 0) * (e + d * 0) - 4 * c * (a + f * 0 + b * 0 * 0) = (d * d - 4 * c * b) * 0 * 0 + (2 * d * e - 4 * c * f) * 0 + (e * e - 4 * a * c) := by grind
    rw [j0] at k1
    have k2 := cz3_c (c := c) (b := e + d * 1) (g := a + f * 1 + b * 1 * 1) hc
    have j1 : (e + d * 1) * (e + d * 1) - 4 * c * (a + f * 1 + b * 1 * 1) = (d * d - 4 * c * b) * 1 * 1 + (2 * d * e - 4 * c * f) * 1 + (e * e - 4 * a * c) := by grind
    rw [j1] at k2
    have k3 := cz3_c (c := c) (b := e + d * 2) (g := a + f * 2 + b * 2 * 2) hc
    have j2 : (e + d * 2) * (e + d * 2) - 4 * c * (a + f * 2 + b * 2 * 2) = (d * d - 4 * c * b) * 2 * 2 + (2 * d * e - 4 * c * f) * 2 + (e * e - 4 * a * c) := by grind
    rw [j2] at k3
    have h9 := cs3_c (A := d * d - 4 * c * b) (B := 2 * d * e - 4 * c * f) (C := e * e - 4 * a * c) (by
      have e9 : (2 * d * e - 4 * c * f) * (2 * d * e - 4 * c * f) - 4 * (d * d - 4 * c * b) * (e * e - 4 * a * c) = (-16) * (c * (4 * a * b * c + d * e * f - a * d * d - b * e * e - c * f * f)) := by grind
      rw [e9]
      exact mp3 (by decide) (mp3 hc hD))
    omega
/-- the square sign by 5 -/
def ch5 (x : Int) : Int := if x % 5 = 0 then 0 else if x % 5 = 1 ∨ x % 5 = 4 then 1 else -1
theorem ch5_m (x : Int) : ch5 (x % 5) = ch5 x := by unfold ch5; rw [Int.emod_emod]
theorem iv5 : iv 5 0 = [0, 1, 2, 3, 4] := by decide
theorem cz5_m (c b g : Int) : cz 5 c b g = cz 5 (c % 5) (b % 5) (g % 5) := by
  unfold cz
  rw [iv5]
  have h0 : ((c * 0 * 0 + b * 0 + g) % ((5 : Nat) : Int) = 0) ↔ (((c % 5) * 0 * 0 + (b % 5) * 0 + (g % 5)) % ((5 : Nat) : Int) = 0) := by omega
  have h1 : ((c * 1 * 1 + b * 1 + g) % ((5 : Nat) : Int) = 0) ↔ (((c % 5) * 1 * 1 + (b % 5) * 1 + (g % 5)) % ((5 : Nat) : Int) = 0) := by omega
  have h2 : ((c * 2 * 2 + b * 2 + g) % ((5 : Nat) : Int) = 0) ↔ (((c % 5) * 2 * 2 + (b % 5) * 2 + (g % 5)) % ((5 : Nat) : Int) = 0) := by omega
  have h3 : ((c * 3 * 3 + b * 3 + g) % ((5 : Nat) : Int) = 0) ↔ (((c % 5) * 3 * 3 + (b % 5) * 3 + (g % 5)) % ((5 : Nat) : Int) = 0) := by omega
  have h4 : ((c * 4 * 4 + b * 4 + g) % ((5 : Nat) : Int) = 0) ↔ (((c % 5) * 4 * 4 + (b % 5) * 4 + (g % 5)) % ((5 : Nat) : Int) = 0) := by omega
  simp only [List.filter_cons, List.filter_nil, decide_eq_true_eq, h0, h1, h2, h3, h4]
theorem cz5_d : ∀ r : Nat, r < 5 → ∀ s : Nat, s < 5 → ∀ t : Nat, t < 5 → r ≠ 0 → (cz 5 (r : Int) (s : Int) (t : Int) : Int) = 1 + ch5 ((s : Int) * (s : Int) - 4 * (r : Int) * (t : Int)) := by decide +kernel
theorem cz5_c {c b g : Int} (hc : c % 5 ≠ 0) : (cz 5 c b g : Int) = 1 + ch5 (b * b - 4 * c * g) := by
  have h := cz5_d (c % 5).toNat (by omega) (b % 5).toNat (by omega) (g % 5).toNat (by omega) (by omega)
  have e1 : (((c % 5).toNat : Nat) : Int) = c % 5 := by omega
  have e2 : (((b % 5).toNat : Nat) : Int) = b % 5 := by omega
  have e3 : (((g % 5).toNat : Nat) : Int) = g % 5 := by omega
  rw [e1, e2, e3, ← cz5_m] at h
  rw [h, ← ch5_m, ← ch5_m (b * b - 4 * c * g)]
  congr 2
  obtain ⟨c', hc'⟩ : ∃ k, c = 5 * k + c % 5 := ⟨c / 5, by omega⟩
  obtain ⟨b', hb'⟩ : ∃ k, b = 5 * k + b % 5 := ⟨b / 5, by omega⟩
  obtain ⟨g', hg'⟩ : ∃ k, g = 5 * k + g % 5 := ⟨g / 5, by omega⟩
  generalize c % 5 = c0 at *
  generalize b % 5 = b0 at *
  generalize g % 5 = g0 at *
  subst hc'; subst hb'; subst hg'
  have e9 : (5 * b' + b0) * (5 * b' + b0) - 4 * (5 * c' + c0) * (5 * g' + g0) = (b0 * b0 - 4 * c0 * g0) + 5 * (5 * b' * b' + 2 * b' * b0 - 4 * (5 * c' * g' + c' * g0 + c0 * g')) := by grind
  rw [e9, Int.add_mul_emod_self_left]
theorem cs5_d : ∀ r : Nat, r < 5 → ∀ s : Nat, s < 5 → ∀ t : Nat, t < 5 → ((s : Int) * (s : Int) - 4 * (r : Int) * (t : Int)) % 5 ≠ 0 → ch5 (r : Int) + (ch5 ((r : Int) * 0 * 0 + (s : Int) * 0 + (t : Int)) + ch5 ((r : Int) * 1 * 1 + (s : Int) * 1 + (t : Int)) + ch5 ((r : Int) * 2 * 2 + (s : Int) * 2 + (t : Int)) + ch5 ((r : Int) * 3 * 3 + (s : Int) * 3 + (t : Int)) + ch5 ((r : Int) * 4 * 4 + (s : Int) * 4 + (t : Int))) = 0 := by decide +kernel
theorem cs5_c {A B C : Int} (h : (B * B - 4 * A * C) % 5 ≠ 0) : ch5 A + (ch5 (A * 0 * 0 + B * 0 + C) + ch5 (A * 1 * 1 + B * 1 + C) + ch5 (A * 2 * 2 + B * 2 + C) + ch5 (A * 3 * 3 + B * 3 + C) + ch5 (A * 4 * 4 + B * 4 + C)) = 0 := by
  have h1 := cs5_d (A % 5).toNat (by omega) (B % 5).toNat (by omega) (C % 5).toNat (by omega)
  have e1 : (((A % 5).toNat : Nat) : Int) = A % 5 := by omega
  have e2 : (((B % 5).toNat : Nat) : Int) = B % 5 := by omega
  have e3 : (((C % 5).toNat : Nat) : Int) = C % 5 := by omega
  rw [e1, e2, e3] at h1
  have h2 := h1 (by
    intro h9
    apply h
    obtain ⟨A', hA'⟩ : ∃ k, A = 5 * k + A % 5 := ⟨A / 5, by omega⟩
    obtain ⟨B', hB'⟩ : ∃ k, B = 5 * k + B % 5 := ⟨B / 5, by omega⟩
    obtain ⟨C', hC'⟩ : ∃ k, C = 5 * k + C % 5 := ⟨C / 5, by omega⟩
    generalize A % 5 = A0 at *
    generalize B % 5 = B0 at *
    generalize C % 5 = C0 at *
    subst hA'; subst hB'; subst hC'
    have e9 : (5 * B' + B0) * (5 * B' + B0) - 4 * (5 * A' + A0) * (5 * C' + C0) = (B0 * B0 - 4 * A0 * C0) + 5 * (5 * B' * B' + 2 * B' * B0 - 4 * (5 * A' * C' + A' * C0 + A0 * C')) := by grind
    rw [e9, Int.add_mul_emod_self_left]
    exact h9)
  rw [ch5_m] at h2
  have y0 : ch5 ((A % 5) * 0 * 0 + (B % 5) * 0 + (C % 5)) = ch5 (A * 0 * 0 + B * 0 + C) := by rw [← ch5_m, ← ch5_m (A * 0 * 0 + B * 0 + C)]; congr 1; omega
  have y1 : ch5 ((A % 5) * 1 * 1 + (B % 5) * 1 + (C % 5)) = ch5 (A * 1 * 1 + B * 1 + C) := by rw [← ch5_m, ← ch5_m (A * 1 * 1 + B * 1 + C)]; congr 1; omega
  have y2 : ch5 ((A % 5) * 2 * 2 + (B % 5) * 2 + (C % 5)) = ch5 (A * 2 * 2 + B * 2 + C) := by rw [← ch5_m, ← ch5_m (A * 2 * 2 + B * 2 + C)]; congr 1; omega
  have y3 : ch5 ((A % 5) * 3 * 3 + (B % 5) * 3 + (C % 5)) = ch5 (A * 3 * 3 + B * 3 + C) := by rw [← ch5_m, ← ch5_m (A * 3 * 3 + B * 3 + C)]; congr 1; omega
  have y4 : ch5 ((A % 5) * 4 * 4 + (B % 5) * 4 + (C % 5)) = ch5 (A * 4 * 4 + B * 4 + C) := by rw [← ch5_m, ← ch5_m (A * 4 * 4 + B * 4 + C)]; congr 1; omega
  rw [y0, y1, y2, y3, y4] at h2
  exact h2
theorem o5_d : ∀ s : Nat, s < 5 → ∀ t : Nat, t < 5 → s ≠ 0 → cz 5 0 (s : Int) (t : Int) = 1 := by decide +kernel
theorem o5_c {c b g : Int} (hc : c % 5 = 0) : (if b % 5 = 0 then 0 else 1) ≤ cz 5 c b g := by
  split
  · exact Nat.zero_le _
  · have h := o5_d (b % 5).toNat (by omega) (g % 5).toNat (by omega) (by omega)
    have e2 : (((b % 5).toNat : Nat) : Int) = b % 5 := by omega
    have e3 : (((g % 5).toNat : Nat) : Int) = g % 5 := by omega
    rw [e2, e3] at h
    rw [cz5_m, hc, h]
    exact Nat.le_refl _
theorem n5_d : ∀ d : Nat, d < 5 → ∀ e : Nat, e < 5 → d ≠ 0 → 4 ≤ (if ((e : Int) + (d : Int) * 0) % 5 = 0 then 0 else 1) + (if ((e : Int) + (d : Int) * 1) % 5 = 0 then 0 else 1) + (if ((e : Int) + (d : Int) * 2) % 5 = 0 then 0 else 1) + (if ((e : Int) + (d : Int) * 3) % 5 = 0 then 0 else 1) + (if ((e : Int) + (d : Int) * 4) % 5 = 0 then 0 else 1) := by decide +kernel
theorem n5_c {d e : Int} (hd : d % 5 ≠ 0) : 4 ≤ (if (e + d * 0) % 5 = 0 then 0 else 1) + (if (e + d * 1) % 5 = 0 then 0 else 1) + (if (e + d * 2) % 5 = 0 then 0 else 1) + (if (e + d * 3) % 5 = 0 then 0 else 1) + (if (e + d * 4) % 5 = 0 then 0 else 1) := by
  have h := n5_d (d % 5).toNat (by omega) (e % 5).toNat (by omega) (by omega)
  have e1 : (((d % 5).toNat : Nat) : Int) = d % 5 := by omega
  have e2 : (((e % 5).toNat : Nat) : Int) = e % 5 := by omega
  rw [e1, e2] at h
  have y0 : ((e % 5 + d % 5 * 0) % 5 = 0) ↔ ((e + d * 0) % 5 = 0) := by omega
  have y1 : ((e % 5 + d % 5 * 1) % 5 = 0) ↔ ((e + d * 1) % 5 = 0) := by omega
  have y2 : ((e % 5 + d % 5 * 2) % 5 = 0) ↔ ((e + d * 2) % 5 = 0) := by omega
  have y3 : ((e % 5 + d % 5 * 3) % 5 = 0) ↔ ((e + d * 3) % 5 = 0) := by omega
  have y4 : ((e % 5 + d % 5 * 4) % 5 = 0) ↔ ((e + d * 4) % 5 = 0) := by omega
  simp only [y0, y1, y2, y3, y4] at h
  exact h
theorem mp5 {a b : Int} (ha : a % 5 ≠ 0) (hb : b % 5 ≠ 0) : (a * b) % 5 ≠ 0 := by
  have k : ∀ s : Nat, s < 5 → ∀ t : Nat, t < 5 → s ≠ 0 → t ≠ 0 → ((s : Int) * (t : Int)) % 5 ≠ 0 := by decide +kernel
  have h := k (a % 5).toNat (by omega) (b % 5).toNat (by omega) (by omega) (by omega)
  have e2 : (((a % 5).toNat : Nat) : Int) = a % 5 := by omega
  have e3 : (((b % 5).toNat : Nat) : Int) = b % 5 := by omega
  rw [e2, e3, ← Int.mul_emod] at h
  exact h
theorem lns5 {Q : F6} (hD : qf_disc Q % 5 ≠ 0) : 6 ≤ (lns Q 5).length := by
  obtain ⟨a, b, c, d, e, f⟩ := Q
  rw [lns_len, iv5]
  simp only [List.map_cons, List.map_nil, List.sum_cons, List.sum_nil]
  simp only [qf_disc] at hD
  have hcast : ((5 : Nat) : Int) = 5 := rfl
  rw [hcast]
  by_cases hc : c % 5 = 0
  · rw [if_pos hc]
    have z0 := o5_c (b := e + d * 0) (g := a + f * 0 + b * 0 * 0) hc
    have z1 := o5_c (b := e + d * 1) (g := a + f * 1 + b * 1 * 1) hc
    have z2 := o5_c (b := e + d * 2) (g := a + f * 2 + b * 2 * 2) hc
    have z3 := o5_c (b := e + d * 3) (g := a + f * 3 + b * 3 * 3) hc
    have z4 := o5_c (b := e + d * 4) (g := a + f * 4 + b * 4 * 4) hc
    have z := o5_c (b := d) (g := b) hc
    by_cases hd : d % 5 = 0
    · have he : e % 5 ≠ 0 := by
        intro he
        apply hD
        obtain ⟨c', hc'⟩ : ∃ k, c = 5 * k := ⟨c / 5, by omega⟩
        obtain ⟨d', hd'⟩ : ∃ k, d = 5 * k := ⟨d / 5, by omega⟩
        obtain ⟨e', he'⟩ : ∃ k, e = 5 * k := ⟨e / 5, by omega⟩
        subst hc'; subst hd'; subst he'
        have e9 : 4 * a * b * (5 * c') + 5 * d' * (5 * e') * f - a * (5 * d') * (5 * d') - b * (5 * e') * (5 * e') - 5 * c' * f * f = 5 * (4 * a * b * c' + d' * (5 * e') * f - a * d' * (5 * d') - b * e' * (5 * e') - c' * f * f) := by grind
        rw [e9]
        exact Int.mul_emod_right _ _
      rw [if_neg (by omega)] at z0
      rw [if_neg (by omega)] at z1
      rw [if_neg (by omega)] at z2
      rw [if_neg (by omega)] at z3
      rw [if_neg (by omega)] at z4
      omega
    · have h9 := n5_c (d := d) (e := e) hd
      rw [if_neg hd] at z
      omega
  · rw [if_neg hc]
    have k0 := cz5_c (c := c) (b := d) (g := b) hc
    have k1 := cz5_c (c := c) (b := e + d * 0) (g := a + f * 0 + b * 0 * 0) hc
    have j0 : (e + d * 0) * (e + d * 0) - 4 * c * (a + f * 0 + b * 0 * 0) = (d * d - 4 * c * b) * 0 * 0 + (2 * d * e - 4 * c * f) * 0 + (e * e - 4 * a * c) := by grind
    rw [j0] at k1
    have k2 := cz5_c (c := c) (b := e + d * 1) (g := a + f * 1 + b * 1 * 1) hc
    have j1 : (e + d * 1) * (e + d * 1) - 4 * c * (a + f * 1 + b * 1 * 1) = (d * d - 4 * c * b) * 1 * 1 + (2 * d * e - 4 * c * f) * 1 + (e * e - 4 * a * c) := by grind
    rw [j1] at k2
    have k3 := cz5_c (c := c) (b := e + d * 2) (g := a + f * 2 + b * 2 * 2) hc
    have j2 : (e + d * 2) * (e + d * 2) - 4 * c * (a + f * 2 + b * 2 * 2) = (d * d - 4 * c * b) * 2 * 2 + (2 * d * e - 4 * c * f) * 2 + (e * e - 4 * a * c) := by grind
    rw [j2] at k3
    have k4 := cz5_c (c := c) (b := e + d * 3) (g := a + f * 3 + b * 3 * 3) hc
    have j3 : (e + d * 3) * (e + d * 3) - 4 * c * (a + f * 3 + b * 3 * 3) = (d * d - 4 * c * b) * 3 * 3 + (2 * d * e - 4 * c * f) * 3 + (e * e - 4 * a * c) := by grind
    rw [j3] at k4
    have k5 := cz5_c (c := c) (b := e + d * 4) (g := a + f * 4 + b * 4 * 4) hc
    have j4 : (e + d * 4) * (e + d * 4) - 4 * c * (a + f * 4 + b * 4 * 4) = (d * d - 4 * c * b) * 4 * 4 + (2 * d * e - 4 * c * f) * 4 + (e * e - 4 * a * c) := by grind
    rw [j4] at k5
    have h9 := cs5_c (A := d * d - 4 * c * b) (B := 2 * d * e - 4 * c * f) (C := e * e - 4 * a * c) (by
      have e9 : (2 * d * e - 4 * c * f) * (2 * d * e - 4 * c * f) - 4 * (d * d - 4 * c * b) * (e * e - 4 * a * c) = (-16) * (c * (4 * a * b * c + d * e * f - a * d * d - b * e * e - c * f * f)) := by grind
      rw [e9]
      exact mp5 (by decide) (mp5 hc hD))
    omega
/-- the square sign by 7 -/
def ch7 (x : Int) : Int := if x % 7 = 0 then 0 else if x % 7 = 1 ∨ x % 7 = 2 ∨ x % 7 = 4 then 1 else -1
theorem ch7_m (x : Int) : ch7 (x % 7) = ch7 x := by unfold ch7; rw [Int.emod_emod]
theorem iv7 : iv 7 0 = [0, 1, 2, 3, 4, 5, 6] := by decide
theorem cz7_m (c b g : Int) : cz 7 c b g = cz 7 (c % 7) (b % 7) (g % 7) := by
  unfold cz
  rw [iv7]
  have h0 : ((c * 0 * 0 + b * 0 + g) % ((7 : Nat) : Int) = 0) ↔ (((c % 7) * 0 * 0 + (b % 7) * 0 + (g % 7)) % ((7 : Nat) : Int) = 0) := by omega
  have h1 : ((c * 1 * 1 + b * 1 + g) % ((7 : Nat) : Int) = 0) ↔ (((c % 7) * 1 * 1 + (b % 7) * 1 + (g % 7)) % ((7 : Nat) : Int) = 0) := by omega
  have h2 : ((c * 2 * 2 + b * 2 + g) % ((7 : Nat) : Int) = 0) ↔ (((c % 7) * 2 * 2 + (b % 7) * 2 + (g % 7)) % ((7 : Nat) : Int) = 0) := by omega
  have h3 : ((c * 3 * 3 + b * 3 + g) % ((7 : Nat) : Int) = 0) ↔ (((c % 7) * 3 * 3 + (b % 7) * 3 + (g % 7)) % ((7 : Nat) : Int) = 0) := by omega
  have h4 : ((c * 4 * 4 + b * 4 + g) % ((7 : Nat) : Int) = 0) ↔ (((c % 7) * 4 * 4 + (b % 7) * 4 + (g % 7)) % ((7 : Nat) : Int) = 0) := by omega
  have h5 : ((c * 5 * 5 + b * 5 + g) % ((7 : Nat) : Int) = 0) ↔ (((c % 7) * 5 * 5 + (b % 7) * 5 + (g % 7)) % ((7 : Nat) : Int) = 0) := by omega
  have h6 : ((c * 6 * 6 + b * 6 + g) % ((7 : Nat) : Int) = 0) ↔ (((c % 7) * 6 * 6 + (b % 7) * 6 + (g % 7)) % ((7 : Nat) : Int) = 0) := by omega
  simp only [List.filter_cons, List.filter_nil, decide_eq_true_eq, h0, h1, h2, h3, h4, h5, h6]
theorem cz7_d : ∀ r : Nat, r < 7 → ∀ s : Nat, s < 7 → ∀ t : Nat, t < 7 → r ≠ 0 → (cz 7 (r : Int) (s : Int) (t : Int) : Int) = 1 + ch7 ((s : Int) * (s : Int) - 4 * (r : Int) * (t : Int)) := by decide +kernel
theorem cz7_c {c b g : Int} (hc : c % 7 ≠ 0) : (cz 7 c b g : Int) = 1 + ch7 (b * b - 4 * c * g) := by
  have h := cz7_d (c % 7).toNat (by omega) (b % 7).toNat (by omega) (g % 7).toNat (by omega) (by omega)
  have e1 : (((c % 7).toNat : Nat) : Int) = c % 7 := by omega
  have e2 : (((b % 7).toNat : Nat) : Int) = b % 7 := by omega
  have e3 : (((g % 7).toNat : Nat) : Int) = g % 7 := by omega
  rw [e1, e2, e3, ← cz7_m] at h
  rw [h, ← ch7_m, ← ch7_m (b * b - 4 * c * g)]
  congr 2
  obtain ⟨c', hc'⟩ : ∃ k, c = 7 * k + c % 7 := ⟨c / 7, by omega⟩
  obtain ⟨b', hb'⟩ : ∃ k, b = 7 * k + b % 7 := ⟨b / 7, by omega⟩
  obtain ⟨g', hg'⟩ : ∃ k, g = 7 * k + g % 7 := ⟨g / 7, by omega⟩
  generalize c % 7 = c0 at *
  generalize b % 7 = b0 at *
  generalize g % 7 = g0 at *
  subst hc'; subst hb'; subst hg'
  have e9 : (7 * b' + b0) * (7 * b' + b0) - 4 * (7 * c' + c0) * (7 * g' + g0) = (b0 * b0 - 4 * c0 * g0) + 7 * (7 * b' * b' + 2 * b' * b0 - 4 * (7 * c' * g' + c' * g0 + c0 * g')) := by grind
  rw [e9, Int.add_mul_emod_self_left]
theorem cs7_d : ∀ r : Nat, r < 7 → ∀ s : Nat, s < 7 → ∀ t : Nat, t < 7 → ((s : Int) * (s : Int) - 4 * (r : Int) * (t : Int)) % 7 ≠ 0 → ch7 (r : Int) + (ch7 ((r : Int) * 0 * 0 + (s : Int) * 0 + (t : Int)) + ch7 ((r : Int) * 1 * 1 + (s : Int) * 1 + (t : Int)) + ch7 ((r : Int) * 2 * 2 + (s : Int) * 2 + (t : Int)) + ch7 ((r : Int) * 3 * 3 + (s : Int) * 3 + (t : Int)) + ch7 ((r : Int) * 4 * 4 + (s : Int) * 4 + (t : Int)) + ch7 ((r : Int) * 5 * 5 + (s : Int) * 5 + (t : Int)) + ch7 ((r : Int) * 6 * 6 + (s : Int) * 6 + (t : Int))) = 0 := by decide +kernel
theorem cs7_c {A B C : Int} (h : (B * B - 4 * A * C) % 7 ≠ 0) : ch7 A + (ch7 (A * 0 * 0 + B * 0 + C) + ch7 (A * 1 * 1 + B * 1 + C) + ch7 (A * 2 * 2 + B * 2 + C) + ch7 (A * 3 * 3 + B * 3 + C) + ch7 (A * 4 * 4 + B * 4 + C) + ch7 (A * 5 * 5 + B * 5 + C) + ch7 (A * 6 * 6 + B * 6 + C)) = 0 := by
  have h1 := cs7_d (A % 7).toNat (by omega) (B % 7).toNat (by omega) (C % 7).toNat (by omega)
  have e1 : (((A % 7).toNat : Nat) : Int) = A % 7 := by omega
  have e2 : (((B % 7).toNat : Nat) : Int) = B % 7 := by omega
  have e3 : (((C % 7).toNat : Nat) : Int) = C % 7 := by omega
  rw [e1, e2, e3] at h1
  have h2 := h1 (by
    intro h9
    apply h
    obtain ⟨A', hA'⟩ : ∃ k, A = 7 * k + A % 7 := ⟨A / 7, by omega⟩
    obtain ⟨B', hB'⟩ : ∃ k, B = 7 * k + B % 7 := ⟨B / 7, by omega⟩
    obtain ⟨C', hC'⟩ : ∃ k, C = 7 * k + C % 7 := ⟨C / 7, by omega⟩
    generalize A % 7 = A0 at *
    generalize B % 7 = B0 at *
    generalize C % 7 = C0 at *
    subst hA'; subst hB'; subst hC'
    have e9 : (7 * B' + B0) * (7 * B' + B0) - 4 * (7 * A' + A0) * (7 * C' + C0) = (B0 * B0 - 4 * A0 * C0) + 7 * (7 * B' * B' + 2 * B' * B0 - 4 * (7 * A' * C' + A' * C0 + A0 * C')) := by grind
    rw [e9, Int.add_mul_emod_self_left]
    exact h9)
  rw [ch7_m] at h2
  have y0 : ch7 ((A % 7) * 0 * 0 + (B % 7) * 0 + (C % 7)) = ch7 (A * 0 * 0 + B * 0 + C) := by rw [← ch7_m, ← ch7_m (A * 0 * 0 + B * 0 + C)]; congr 1; omega
  have y1 : ch7 ((A % 7) * 1 * 1 + (B % 7) * 1 + (C % 7)) = ch7 (A * 1 * 1 + B * 1 + C) := by rw [← ch7_m, ← ch7_m (A * 1 * 1 + B * 1 + C)]; congr 1; omega
  have y2 : ch7 ((A % 7) * 2 * 2 + (B % 7) * 2 + (C % 7)) = ch7 (A * 2 * 2 + B * 2 + C) := by rw [← ch7_m, ← ch7_m (A * 2 * 2 + B * 2 + C)]; congr 1; omega
  have y3 : ch7 ((A % 7) * 3 * 3 + (B % 7) * 3 + (C % 7)) = ch7 (A * 3 * 3 + B * 3 + C) := by rw [← ch7_m, ← ch7_m (A * 3 * 3 + B * 3 + C)]; congr 1; omega
  have y4 : ch7 ((A % 7) * 4 * 4 + (B % 7) * 4 + (C % 7)) = ch7 (A * 4 * 4 + B * 4 + C) := by rw [← ch7_m, ← ch7_m (A * 4 * 4 + B * 4 + C)]; congr 1; omega
  have y5 : ch7 ((A % 7) * 5 * 5 + (B % 7) * 5 + (C % 7)) = ch7 (A * 5 * 5 + B * 5 + C) := by rw [← ch7_m, ← ch7_m (A * 5 * 5 + B * 5 + C)]; congr 1; omega
  have y6 : ch7 ((A % 7) * 6 * 6 + (B % 7) * 6 + (C % 7)) = ch7 (A * 6 * 6 + B * 6 + C) := by rw [← ch7_m, ← ch7_m (A * 6 * 6 + B * 6 + C)]; congr 1; omega
  rw [y0, y1, y2, y3, y4, y5, y6] at h2
  exact h2
theorem o7_d : ∀ s : Nat, s < 7 → ∀ t : Nat, t < 7 → s ≠ 0 → cz 7 0 (s : Int) (t : Int) = 1 := by decide +kernel
theorem o7_c {c b g : Int} (hc : c % 7 = 0) : (if b % 7 = 0 then 0 else 1) ≤ cz 7 c b g := by
  split
  · exact Nat.zero_le _
  · have h := o7_d (b % 7).toNat (by omega) (g % 7).toNat (by omega) (by omega)
    have e2 : (((b % 7).toNat : Nat) : Int) = b % 7 := by omega
    have e3 : (((g % 7).toNat : Nat) : Int) = g % 7 := by omega
    rw [e2, e3] at h
    rw [cz7_m, hc, h]
    exact Nat.le_refl _
theorem n7_d : ∀ d : Nat, d < 7 → ∀ e : Nat, e < 7 → d ≠ 0 → 6 ≤ (if ((e : Int) + (d : Int) * 0) % 7 = 0 then 0 else 1) + (if ((e : Int) + (d : Int) * 1) % 7 = 0 then 0 else 1) + (if ((e : Int) + (d : Int) * 2) % 7 = 0 then 0 else 1) + (if ((e : Int) + (d : Int) * 3) % 7 = 0 then 0 else 1) + (if ((e : Int) + (d : Int) * 4) % 7 = 0 then 0 else 1) + (if ((e : Int) + (d : Int) * 5) % 7 = 0 then 0 else 1) + (if ((e : Int) + (d : Int) * 6) % 7 = 0 then 0 else 1) := by decide +kernel
theorem n7_c {d e : Int} (hd : d % 7 ≠ 0) : 6 ≤ (if (e + d * 0) % 7 = 0 then 0 else 1) + (if (e + d * 1) % 7 = 0 then 0 else 1) + (if (e + d * 2) % 7 = 0 then 0 else 1) + (if (e + d * 3) % 7 = 0 then 0 else 1) + (if (e + d * 4) % 7 = 0 then 0 else 1) + (if (e + d * 5) % 7 = 0 then 0 else 1) + (if (e + d * 6) % 7 = 0 then 0 else 1) := by
  have h := n7_d (d % 7).toNat (by omega) (e % 7).toNat (by omega) (by omega)
  have e1 : (((d % 7).toNat : Nat) : Int) = d % 7 := by omega
  have e2 : (((e % 7).toNat : Nat) : Int) = e % 7 := by omega
  rw [e1, e2] at h
  have y0 : ((e % 7 + d % 7 * 0) % 7 = 0) ↔ ((e + d * 0) % 7 = 0) := by omega
  have y1 : ((e % 7 + d % 7 * 1) % 7 = 0) ↔ ((e + d * 1) % 7 = 0) := by omega
  have y2 : ((e % 7 + d % 7 * 2) % 7 = 0) ↔ ((e + d * 2) % 7 = 0) := by omega
  have y3 : ((e % 7 + d % 7 * 3) % 7 = 0) ↔ ((e + d * 3) % 7 = 0) := by omega
  have y4 : ((e % 7 + d % 7 * 4) % 7 = 0) ↔ ((e + d * 4) % 7 = 0) := by omega
  have y5 : ((e % 7 + d % 7 * 5) % 7 = 0) ↔ ((e + d * 5) % 7 = 0) := by omega
  have y6 : ((e % 7 + d % 7 * 6) % 7 = 0) ↔ ((e + d * 6) % 7 = 0) := by omega
  simp only [y0, y1, y2, y3, y4, y5, y6] at h
  exact h
theorem mp7 {a b : Int} (ha : a % 7 ≠ 0) (hb : b % 7 ≠ 0) : (a * b) % 7 ≠ 0 := by
  have k : ∀ s : Nat, s < 7 → ∀ t : Nat, t < 7 → s ≠ 0 → t ≠ 0 → ((s : Int) * (t : Int)) % 7 ≠ 0 := by decide +kernel
  have h := k (a % 7).toNat (by omega) (b % 7).toNat (by omega) (by omega) (by omega)
  have e2 : (((a % 7).toNat : Nat) : Int) = a % 7 := by omega
  have e3 : (((b % 7).toNat : Nat) : Int) = b % 7 := by omega
  rw [e2, e3, ← Int.mul_emod] at h
  exact h
theorem lns7 {Q : F6} (hD : qf_disc Q % 7 ≠ 0) : 8 ≤ (lns Q 7).length := by
  obtain ⟨a, b, c, d, e, f⟩ := Q
  rw [lns_len, iv7]
  simp only [List.map_cons, List.map_nil, List.sum_cons, List.sum_nil]
  simp only [qf_disc] at hD
  have hcast : ((7 : Nat) : Int) = 7 := rfl
  rw [hcast]
  by_cases hc : c % 7 = 0
  · rw [if_pos hc]
    have z0 := o7_c (b := e + d * 0) (g := a + f * 0 + b * 0 * 0) hc
    have z1 := o7_c (b := e + d * 1) (g := a + f * 1 + b * 1 * 1) hc
    have z2 := o7_c (b := e + d * 2) (g := a + f * 2 + b * 2 * 2) hc
    have z3 := o7_c (b := e + d * 3) (g := a + f * 3 + b * 3 * 3) hc
    have z4 := o7_c (b := e + d * 4) (g := a + f * 4 + b * 4 * 4) hc
    have z5 := o7_c (b := e + d * 5) (g := a + f * 5 + b * 5 * 5) hc
    have z6 := o7_c (b := e + d * 6) (g := a + f * 6 + b * 6 * 6) hc
    have z := o7_c (b := d) (g := b) hc
    by_cases hd : d % 7 = 0
    · have he : e % 7 ≠ 0 := by
        intro he
        apply hD
        obtain ⟨c', hc'⟩ : ∃ k, c = 7 * k := ⟨c / 7, by omega⟩
        obtain ⟨d', hd'⟩ : ∃ k, d = 7 * k := ⟨d / 7, by omega⟩
        obtain ⟨e', he'⟩ : ∃ k, e = 7 * k := ⟨e / 7, by omega⟩
        subst hc'; subst hd'; subst he'
        have e9 : 4 * a * b * (7 * c') + 7 * d' * (7 * e') * f - a * (7 * d') * (7 * d') - b * (7 * e') * (7 * e') - 7 * c' * f * f = 7 * (4 * a * b * c' + d' * (7 * e') * f - a * d' * (7 * d') - b * e' * (7 * e') - c' * f * f) := by grind
        rw [e9]
        exact Int.mul_emod_right _ _
      rw [if_neg (by omega)] at z0
      rw [if_neg (by omega)] at z1
      rw [if_neg (by omega)] at z2
      rw [if_neg (by omega)] at z3
      rw [if_neg (by omega)] at z4
      rw [if_neg (by omega)] at z5
      rw [if_neg (by omega)] at z6
      omega
    · have h9 := n7_c (d := d) (e := e) hd
      rw [if_neg hd] at z
      omega
  · rw [if_neg hc]
    have k0 := cz7_c (c := c) (b := d) (g := b) hc
    have k1 := cz7_c (c := c) (b := e + d * 0) (g := a + f * 0 + b * 0 * 0) hc
    have j0 : (e + d * 0) * (e + d * 0) - 4 * c * (a + f * 0 + b * 0 * 0) = (d * d - 4 * c * b) * 0 * 0 + (2 * d * e - 4 * c * f) * 0 + (e * e - 4 * a * c) := by grind
    rw [j0] at k1
    have k2 := cz7_c (c := c) (b := e + d * 1) (g := a + f * 1 + b * 1 * 1) hc
    have j1 : (e + d * 1) * (e + d * 1) - 4 * c * (a + f * 1 + b * 1 * 1) = (d * d - 4 * c * b) * 1 * 1 + (2 * d * e - 4 * c * f) * 1 + (e * e - 4 * a * c) := by grind
    rw [j1] at k2
    have k3 := cz7_c (c := c) (b := e + d * 2) (g := a + f * 2 + b * 2 * 2) hc
    have j2 : (e + d * 2) * (e + d * 2) - 4 * c * (a + f * 2 + b * 2 * 2) = (d * d - 4 * c * b) * 2 * 2 + (2 * d * e - 4 * c * f) * 2 + (e * e - 4 * a * c) := by grind
    rw [j2] at k3
    have k4 := cz7_c (c := c) (b := e + d * 3) (g := a + f * 3 + b * 3 * 3) hc
    have j3 : (e + d * 3) * (e + d * 3) - 4 * c * (a + f * 3 + b * 3 * 3) = (d * d - 4 * c * b) * 3 * 3 + (2 * d * e - 4 * c * f) * 3 + (e * e - 4 * a * c) := by grind
    rw [j3] at k4
    have k5 := cz7_c (c := c) (b := e + d * 4) (g := a + f * 4 + b * 4 * 4) hc
    have j4 : (e + d * 4) * (e + d * 4) - 4 * c * (a + f * 4 + b * 4 * 4) = (d * d - 4 * c * b) * 4 * 4 + (2 * d * e - 4 * c * f) * 4 + (e * e - 4 * a * c) := by grind
    rw [j4] at k5
    have k6 := cz7_c (c := c) (b := e + d * 5) (g := a + f * 5 + b * 5 * 5) hc
    have j5 : (e + d * 5) * (e + d * 5) - 4 * c * (a + f * 5 + b * 5 * 5) = (d * d - 4 * c * b) * 5 * 5 + (2 * d * e - 4 * c * f) * 5 + (e * e - 4 * a * c) := by grind
    rw [j5] at k6
    have k7 := cz7_c (c := c) (b := e + d * 6) (g := a + f * 6 + b * 6 * 6) hc
    have j6 : (e + d * 6) * (e + d * 6) - 4 * c * (a + f * 6 + b * 6 * 6) = (d * d - 4 * c * b) * 6 * 6 + (2 * d * e - 4 * c * f) * 6 + (e * e - 4 * a * c) := by grind
    rw [j6] at k7
    have h9 := cs7_c (A := d * d - 4 * c * b) (B := 2 * d * e - 4 * c * f) (C := e * e - 4 * a * c) (by
      have e9 : (2 * d * e - 4 * c * f) * (2 * d * e - 4 * c * f) - 4 * (d * d - 4 * c * b) * (e * e - 4 * a * c) = (-16) * (c * (4 * a * b * c + d * e * f - a * d * d - b * e * e - c * f * f)) := by grind
      rw [e9]
      exact mp7 (by decide) (mp7 hc hD))
    omega
