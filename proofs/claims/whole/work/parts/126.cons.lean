/-! the class's Reducer: a table is looked at -/
def cs_R (q : F6) (α β γ : Int) (cs : List T9) (ties : Int32) (best rows : Nat → Int32) : Prop := (best 0 = Int32.ofInt α ∧ best 1 = Int32.ofInt β ∧ best 2 = Int32.ofInt γ) ∧ ∃ (d e f : Int) (T : T9) (n : Nat), ls_st q cs [d, e, f] T n ∧ ties = ix n ∧ n ≤ cs.length ∧ (0 < n → best 3 = Int32.ofInt d ∧ best 4 = Int32.ofInt e ∧ best 5 = Int32.ofInt f ∧ a9 rows T ∧ (rI d ∧ rI e ∧ rI f) ∧ ∀ x ∈ l9 T, rI x)
def cp3 (img rows : Nat → Int32) (i j k : Nat) : Nat → Int32 := va_cpy img (va_cpy img (va_cpy img rows i 0 3) j 3 3) k 6 3
theorem cp3_a9 {img : Nat → Int32} (rows : Nat → Int32) {i j k : Nat} {u v w : V3} (hu : av img i u) (hv : av img j v) (hw : av img k w) : a9 (cp3 img rows i j k) (u, v, w) := by
  obtain ⟨u0, u1, u2⟩ := hu
  obtain ⟨v0, v1, v2⟩ := hv
  obtain ⟨w0, w1, w2⟩ := hw
  refine ⟨?_, ?_, ?_, ?_, ?_, ?_, ?_, ?_, ?_⟩ <;> simp [cp3, va_cpy, *]
theorem cp3_of {R : Type} {img rows : Nat → Int32} {i j k : Nat} (hi : i + 2 < 81) (hj : j + 2 < 81) (hk : k + 2 < 81) (k168 : (Nat → Int32) → Option R) : (if ¬ ix i < 0 then if (ix i).toNatClampNeg + 3 ≤ 81 then if ¬ ix j < 0 then if (ix j).toNatClampNeg + 3 ≤ 81 then if ¬ ix k < 0 then if (ix k).toNatClampNeg + 3 ≤ 81 then k168 (va_cpy img (va_cpy img (va_cpy img rows (ix i).toNatClampNeg 0 3) (ix j).toNatClampNeg 3 3) (ix k).toNatClampNeg 6 3) else none else none else none else none else none else none) = k168 (cp3 img rows i j k) := by
  rw [if_pos (ix_neg (by omega)), if_pos (by rw [ix_nat (by omega)]; omega), if_pos (ix_neg (by omega)), if_pos (by rw [ix_nat (by omega)]; omega), if_pos (ix_neg (by omega)), if_pos (by rw [ix_nat (by omega)]; omega), ix_nat (by omega), ix_nat (by omega), ix_nat (by omega)]
  rfl
theorem x3_consider {q : F6} {M : T9} {α β γ : Int} {s box img best rows : Nat → Int32} {ties : Int32} {cs : List T9} {x y z : V3} {i j k : Nat} (hs : a6 s (qf_trn q M)) (hx : av box i x) (hy : av box j y) (hz : av box k z) (ix' : av img i (qf_lin M x)) (iy : av img j (qf_lin M y)) (iz : av img k (qf_lin M z)) (hi : i + 2 < 81) (hj : j + 2 < 81) (hk : k + 2 < 81) (hst : cs_R q α β γ cs ties best rows) (hc : cs.length ≤ 100000) (hk3 : ∀ t ∈ lk q (qf_mul (x, y, z) M), rI t) (hk9 : ∀ t ∈ l9 (qf_mul (x, y, z) M), rI t) (fu : Nat) : ∃ t b r, fX3_consider (fu + 10) ties s box img best rows (ix i) (ix j) (ix k) = some (t, b, r) ∧ cs_R q α β γ (cs ++ [qf_mul (x, y, z) M]) t b r := by
  obtain ⟨⟨b0, b1, b2⟩, d, e, f, T, n, hl, ht, hn, hb⟩ := hst
  have hkey : lk q (qf_mul (x, y, z) M) = [qf_tch (qf_trn q M) y z, qf_tch (qf_trn q M) x z, qf_tch (qf_trn q M) x y] := by
    simp only [lk, qf_mul, qf_tch_trn]
  rw [hkey] at hk3
  simp only [List.mem_cons, List.not_mem_nil, or_false, forall_eq_or_imp, forall_eq] at hk3
  obtain ⟨rd, re, rf⟩ := hk3
  unfold fX3_consider
  rw [x4_touch hs hy hz hj hk (by decide), x4_touch hs hx hz hi hk (by decide), x4_touch hs hx hy hi hj (by decide)]
  generalize qf_tch (qf_trn q M) y z = d' at *
  generalize qf_tch (qf_trn q M) x z = e' at *
  generalize qf_tch (qf_trn q M) x y = f' at *
  simp only [bd1]
  have hnew : ∀ (b9 : Nat → Int32), cs_R q α β γ (cs ++ [qf_mul (x, y, z) M]) (0 + 1) (upd (upd (upd best 3 (Int32.ofInt d')) 4 (Int32.ofInt e')) 5 (Int32.ofInt f')) (cp3 img b9 i j k) ∨ ¬ (n = 0 ∨ lx_lt (lk q (qf_mul (x, y, z) M)) [d, e, f] = true) := by
    intro b9
    by_cases h9 : n = 0 ∨ lx_lt (lk q (qf_mul (x, y, z) M)) [d, e, f] = true
    · left
      have h8 := ls_lt hl _ h9
      rw [hkey] at h8
      refine ⟨⟨by simp [upd, b0], by simp [upd, b1], by simp [upd, b2]⟩, d', e', f', _, 1, h8, rfl, by simp, fun _ => ⟨by simp [upd], by simp [upd], by simp [upd], cp3_a9 b9 ix' iy iz, ⟨rd, re, rf⟩, hk9⟩⟩
    · right; exact h9
  by_cases h0 : n = 0
  · subst h0
    have ht : ties = 0 := ht
    rw [ht]
    simp only [nm_eq, ↓reduceIte]
    rw [if_pos (by decide), if_neg (by decide), cp3_of hi hj hk (fun r9 => some (0 + 1, upd (upd (upd best 3 (Int32.ofInt d')) 4 (Int32.ofInt e')) 5 (Int32.ofInt f'), r9))]
    exact ⟨_, _, _, rfl, (hnew rows).resolve_right (fun h => h (Or.inl rfl))⟩
  · have hn0 : 0 < n := by omega
    obtain ⟨c3, c4, c5, c9, ⟨sd, se, sf⟩, rT⟩ := hb hn0
    have hne : ¬ ties = 0 := by rw [ht, ix_0, ix_eq (by omega) (by omega)]; omega
    simp only [nm_eq]
    rw [if_neg hne, x3_cmp c3 c4 c5 rd re rf sd se sf]
    simp only [bd1]
    by_cases g1 : lx_lt [d', e', f'] [d, e, f] = true
    · rw [if_pos g1, if_pos (by decide), if_neg (by decide)]
      simp only [↓reduceIte]
      rw [cp3_of hi hj hk (fun r9 => some (0 + 1, upd (upd (upd best 3 (Int32.ofInt d')) 4 (Int32.ofInt e')) 5 (Int32.ofInt f'), r9))]
      exact ⟨_, _, _, rfl, (hnew rows).resolve_right (fun h => h (Or.inr (by rw [hkey]; exact g1)))⟩
    · rw [if_neg g1]
      by_cases g2 : [d', e', f'] = [d, e, f]
      · rw [if_pos g2, if_pos (by decide), if_pos (by decide), if_neg hne]
        have h8 := ls_eq hl (qf_mul (x, y, z) M) hn0 (hkey.trans g2)
        rw [x3_ahead (u := qf_lin M x) (v := qf_lin M y) (w := qf_lin M z) hi hj hk ix' iy iz c9 hk9 rT]
        simp only [bd1]
        by_cases g3 : lx_lt (l9 (qf_mul (x, y, z) M)) (l9 T) = true
        · rw [if_pos g3] at h8
          have e3 : (if lx_lt (l9 (qf_lin M x, qf_lin M y, qf_lin M z)) (l9 T) = true then (1 : Int32) else 0) = 1 := if_pos g3
          rw [e3, if_neg (by decide), cp3_of hi hj hk (fun r9 => some (ties + 1, best, r9))]
          refine ⟨_, _, _, rfl, ⟨b0, b1, b2⟩, d, e, f, _, n + 1, h8, by rw [ht, ix_1, ix_add], by simp; omega, fun _ => ⟨c3, c4, c5, cp3_a9 rows ix' iy iz, ⟨sd, se, sf⟩, hk9⟩⟩
        · rw [if_neg g3] at h8
          have e3 : (if lx_lt (l9 (qf_lin M x, qf_lin M y, qf_lin M z)) (l9 T) = true then (1 : Int32) else 0) = 0 := if_neg g3
          rw [e3, if_pos rfl]
          refine ⟨_, _, _, rfl, ⟨b0, b1, b2⟩, d, e, f, _, n + 1, h8, by rw [ht, ix_1, ix_add], by simp; omega, fun _ => ⟨c3, c4, c5, c9, ⟨sd, se, sf⟩, rT⟩⟩
      · rw [if_neg g2, if_neg (by decide)]
        have g4 : lx_lt [d, e, f] [d', e', f'] = true := by
          cases g5 : lx_lt [d, e, f] [d', e', f'] with
          | true => rfl
          | false => exact absurd (lx_tri (l := [d', e', f']) (m := [d, e, f]) rfl (by simpa using g1) g5) g2
        have h8 := ls_gt hl (qf_mul (x, y, z) M) hn0 (by rw [hkey]; exact g4)
        exact ⟨_, _, _, rfl, ⟨b0, b1, b2⟩, d, e, f, _, n, h8, ht, by simp; omega, fun h => hb h⟩
