/-! the reference: tryRows -/
theorem l7_det {lists : Nat → Int64} {u v w : V3} {i j k : Nat} (hi : i + 2 < 5400) (hj : j + 2 < 5400) (hk : k + 2 < 5400) (hu : avl lists i u) (hv : avl lists j v) (hw : avl lists k w) : fX7_det lists (ix i) (ix j) (ix k) = some (Int64.ofInt (qf_det (u, v, w))) := by
  unfold fX7_det
  obtain ⟨l1, l2, l3⟩ := l7_cross v.1 v.2.1 v.2.2 w.1 w.2.1 w.2.2
  simp only [nm_eq, ix_1, ix_2, ix_add]
  rw [if_pos (ix_ok (by omega) (by decide)), if_pos (ix_ok (by omega) (by decide)), if_pos (ix_ok (by omega) (by decide)), if_pos (ix_ok (by omega) (by decide)), if_pos (ix_ok (by omega) (by decide)), if_pos (ix_ok (by omega) (by decide))]
  simp only [ix_nat (a := i) (by omega), ix_nat (a := i + 1) (by omega), ix_nat (a := i + 2) (by omega), ix_nat (a := j) (by omega), ix_nat (a := j + 1) (by omega), ix_nat (a := j + 2) (by omega), ix_nat (a := k) (by omega), ix_nat (a := k + 1) (by omega), ix_nat (a := k + 2) (by omega), hu.1, hu.2.1, hu.2.2, hv.1, hv.2.1, hv.2.2, hw.1, hw.2.1, hw.2.2]
  rw [← ix_1, ← ix_2, l1, l2, l3]
  simp only [bd1]
  rw [if_pos (ix_ok (by omega) (by decide)), if_pos (ix_ok (by omega) (by decide)), if_pos (ix_ok (by omega) (by decide)), if_pos (ix_ok (by omega) (by decide)), if_pos (ix_ok (by omega) (by decide)), if_pos (ix_ok (by omega) (by decide))]
  rw [if_pos (ix_ok (by omega) (by decide)), if_pos (ix_ok (by omega) (by decide)), if_pos (ix_ok (by omega) (by decide)), if_pos (ix_ok (by omega) (by decide)), if_pos (ix_ok (by omega) (by decide)), if_pos (ix_ok (by omega) (by decide))]
  rw [if_pos (ix_ok (by omega) (by decide)), if_pos (ix_ok (by omega) (by decide)), if_pos (ix_ok (by omega) (by decide))]
  rw [cr3_det]
  simp only [Int64.ofInt_add, Int64.ofInt_mul]
theorem l7_touchIn {q lists : Nat → Int64} {Q : F6} {u v : V3} {i j : Nat} (hq : al6 q Q) (hi : i + 2 < 5400) (hj : j + 2 < 5400) (hu : avl lists i u) (hv : avl lists j v) : fX7_touchIn q lists (ix i) (ix j) = some (Int64.ofInt (qf_tch Q u v)) := by
  unfold fX7_touchIn
  simp only [nm_eq, ix_1, ix_2, ix_add]
  rw [if_pos (ix_ok (by omega) (by decide)), if_pos (ix_ok (by omega) (by decide)), if_pos (ix_ok (by omega) (by decide)), if_pos (ix_ok (by omega) (by decide)), if_pos (ix_ok (by omega) (by decide)), if_pos (ix_ok (by omega) (by decide))]
  rw [ix_nat (a := i) (by omega), ix_nat (a := i + 1) (by omega), ix_nat (a := i + 2) (by omega), ix_nat (a := j) (by omega), ix_nat (a := j + 1) (by omega), ix_nat (a := j + 2) (by omega), hu.1, hu.2.1, hu.2.2, hv.1, hv.2.1, hv.2.2, l7_tch hq u v]
  rfl
def lsR (q : F6) (α β γ : Int) (cs : List T9) (turns : Int32) (least table : Nat → Int64) : Prop := (least 0 = Int64.ofInt α ∧ least 1 = Int64.ofInt β ∧ least 2 = Int64.ofInt γ) ∧ ∃ (d e f : Int) (T : T9) (n : Nat), ls_st q cs [d, e, f] T n ∧ turns = ix n ∧ n ≤ cs.length ∧ (0 < n → least 3 = Int64.ofInt d ∧ least 4 = Int64.ofInt e ∧ least 5 = Int64.ofInt f ∧ al9 table T ∧ (rL d ∧ rL e ∧ rL f) ∧ ∀ x ∈ l9 T, rL x)
def tr_k (fu : Nat) (turns : Int32) (base least table lists tried : Nat → Int64) (i j k : Int32) (r_2 r_3 r_4 : Int64) : Option ((Int32) × (Nat → Int64) × (Nat → Int64) × (Nat → Int64)) := nm (fun (s_5 : Int32) => nm (fun (s_6 : Int32) => nm (fun (s_7 : Int32) => nm (fun (turns_16 : Int32) (least_17 : Nat → Int64) (table_18 : Nat → Int64) (tried_19 : Nat → Int64) => some (turns_16, least_17, table_18, tried_19)) (fun (k250 : (Int32) → (Nat → Int64) → (Nat → Int64) → (Nat → Int64) → Option ((Int32) × (Nat → Int64) × (Nat → Int64) × (Nat → Int64))) => if s_7 = 0 then (if s_6 = 0 then ((k250 turns least table tried)) else (nm (turns + (1 : Int32)) (fun (turns_8 : Int32) => bd2 (fX7_tryTable fu turns_8 base table lists tried i j k) (fun (table_9 : Nat → Int64) (tried_10 : Nat → Int64) => (k250 turns_8 least table_9 tried_10))))) else (nm (vp_updL least 3 r_2) (fun (least_11 : Nat → Int64) => nm (vp_updL least_11 4 r_3) (fun (least_12 : Nat → Int64) => nm (vp_updL least_12 5 r_4) (fun (least_13 : Nat → Int64) => bd2 (fX7_tryTable fu (1 : Int32) base table lists tried i j k) (fun (table_14 : Nat → Int64) (tried_15 : Nat → Int64) => (k250 (1 : Int32) least_13 table_14 tried_15)))))))) (fun (k182 : (Int32) → Option ((Int32) × (Nat → Int64) × (Nat → Int64) × (Nat → Int64))) => nm ((k182 (1 : Int32))) (fun (k177 : Option ((Int32) × (Nat → Int64) × (Nat → Int64) × (Nat → Int64))) => if s_5 = 0 then (if r_2 < (least 3) then ((k177)) else (nm ((k182 (0 : Int32))) (fun (k181 : Option ((Int32) × (Nat → Int64) × (Nat → Int64) × (Nat → Int64))) => if r_2 = (least 3) then (if r_3 < (least 4) then ((k177)) else (if r_3 = (least 4) then (if (least 5) ≤ r_4 then ((k181)) else ((k177))) else ((k181)))) else ((k181))))) else ((k177))))) (fun (k110 : (Int32) → Option ((Int32) × (Nat → Int64) × (Nat → Int64) × (Nat → Int64))) => nm ((k110 (0 : Int32))) (fun (k109 : Option ((Int32) × (Nat → Int64) × (Nat → Int64) × (Nat → Int64))) => if s_5 = 0 then (if r_2 = (least 3) then (if r_3 = (least 4) then (if r_4 = (least 5) then ((k110 (1 : Int32))) else ((k109))) else ((k109))) else ((k109))) else ((k109))))) (fun (k62 : (Int32) → Option ((Int32) × (Nat → Int64) × (Nat → Int64) × (Nat → Int64))) => if turns = 0 then ((k62 (1 : Int32))) else ((k62 (0 : Int32))))
theorem tr_0 (fu : Nat) (turns : Int32) (q base least table lists tried : Nat → Int64) (i j k : Int32) : fX7_tryRows fu turns q base least table lists tried i j k = bd1 (fX7_det lists i j k) (fun r_1 => if r_1 = (1 : Int64) then (bd1 (fX7_touchIn q lists j k) (fun r_2 => bd1 (fX7_touchIn q lists i k) (fun r_3 => bd1 (fX7_touchIn q lists i j) (fun r_4 => tr_k fu turns base least table lists tried i j k r_2 r_3 r_4)))) else (if r_1 = (-1 : Int64) then (bd1 (fX7_touchIn q lists j k) (fun r_2 => bd1 (fX7_touchIn q lists i k) (fun r_3 => bd1 (fX7_touchIn q lists i j) (fun r_4 => tr_k fu turns base least table lists tried i j k r_2 r_3 r_4)))) else (some (turns, least, table, tried)))) := rfl
theorem tr_first (fu : Nat) (base least table lists tried : Nat → Int64) (i j k : Int32) (x y z : Int64) : tr_k fu 0 base least table lists tried i j k x y z = bd2 (fX7_tryTable fu 1 base table lists tried i j k) (fun tb tr => some (1, vp_updL (vp_updL (vp_updL least 3 x) 4 y) 5 z, tb, tr)) := rfl
theorem tr_next (fu : Nat) {turns : Int32} (ht : ¬ turns = 0) (base least table lists tried : Nat → Int64) (i j k : Int32) (x y z : Int64) : tr_k fu turns base least table lists tried i j k x y z = if (x < least 3 ∨ (x = least 3 ∧ (y < least 4 ∨ (y = least 4 ∧ ¬ least 5 ≤ z)))) then bd2 (fX7_tryTable fu 1 base table lists tried i j k) (fun tb tr => some (1, vp_updL (vp_updL (vp_updL least 3 x) 4 y) 5 z, tb, tr)) else if (x = least 3 ∧ y = least 4 ∧ z = least 5) then bd2 (fX7_tryTable fu (turns + 1) base table lists tried i j k) (fun tb tr => some (turns + 1, least, tb, tr)) else some (turns, least, table, tried) := by
  unfold tr_k
  have h10 : ¬ (1 : Int32) = 0 := by decide
  simp only [nm_eq, ht, h10, ↓reduceIte]
  repeat' split
  all_goals first | rfl | (exfalso; simp_all; done) | (exfalso; grind) | (exfalso; simp_all; rename_i h1 h2; exact absurd h2 (Int64.not_lt.mpr h1))
theorem tr_all {q0 : F6} {B : T9} {α β γ : Int} {q base least table lists : Nat → Int64} {turns : Int32} {cs : List T9} {u v w : V3} {i j k : Nat} (hq : al6 q (qf_trn q0 B)) (hB : al9 base B) (hi : i + 2 < 5400) (hj : j + 2 < 5400) (hk : k + 2 < 5400) (hu : avl lists i u) (hv : avl lists j v) (hw : avl lists k w) (bu : b4 u) (bv : b4 v) (bw : b4 w) (hst : lsR q0 α β γ cs turns least table) (hc : cs.length ≤ 100000000) (hk3 : ∀ t ∈ lk q0 (qf_mul (u, v, w) B), rL t) (hk9 : (qf_det (u, v, w) = 1 ∨ qf_det (u, v, w) = -1) → ∀ t ∈ l9 (qf_mul (u, v, w) B), rL t) (tried : Nat → Int64) {F : Nat} (hF : 100 ≤ F) : ∃ t l tb tr, fX7_tryRows F turns q base least table lists tried (ix i) (ix j) (ix k) = some (t, l, tb, tr) ∧ lsR q0 α β γ (if qf_det (u, v, w) = 1 ∨ qf_det (u, v, w) = -1 then cs ++ [qf_mul (u, v, w) B] else cs) t l tb := by
  have hd := b4_det bu bv bw
  rw [tr_0, l7_det hi hj hk hu hv hw, l7_touchIn hq hj hk hv hw, l7_touchIn hq hi hk hu hw, l7_touchIn hq hi hj hu hv]
  have em : (-1 : Int64) = Int64.ofInt (-1) := rfl
  have k1 : Int64.ofInt (qf_det (u, v, w)) = 1 ↔ qf_det (u, v, w) = 1 := by rw [zl_1, zl_eq ⟨by omega, by omega⟩ ⟨by omega, by omega⟩]
  have k2 : Int64.ofInt (qf_det (u, v, w)) = -1 ↔ qf_det (u, v, w) = -1 := by rw [em, zl_eq ⟨by omega, by omega⟩ ⟨by omega, by omega⟩]
  simp only [bd1, k1, k2]
  by_cases hg : qf_det (u, v, w) = 1 ∨ qf_det (u, v, w) = -1
  · rw [if_pos hg]
    have e1 : (if qf_det (u, v, w) = 1 then tr_k F turns base least table lists tried (ix i) (ix j) (ix k) (Int64.ofInt (qf_tch (qf_trn q0 B) v w)) (Int64.ofInt (qf_tch (qf_trn q0 B) u w)) (Int64.ofInt (qf_tch (qf_trn q0 B) u v)) else (if qf_det (u, v, w) = -1 then tr_k F turns base least table lists tried (ix i) (ix j) (ix k) (Int64.ofInt (qf_tch (qf_trn q0 B) v w)) (Int64.ofInt (qf_tch (qf_trn q0 B) u w)) (Int64.ofInt (qf_tch (qf_trn q0 B) u v)) else some (turns, least, table, tried))) = tr_k F turns base least table lists tried (ix i) (ix j) (ix k) (Int64.ofInt (qf_tch (qf_trn q0 B) v w)) (Int64.ofInt (qf_tch (qf_trn q0 B) u w)) (Int64.ofInt (qf_tch (qf_trn q0 B) u v)) := by
      rcases hg with g | g
      · rw [if_pos g]
      · rw [if_neg (by omega), if_pos g]
    rw [e1]
    have hk9 := hk9 hg
    have hkey : lk q0 (qf_mul (u, v, w) B) = [qf_tch (qf_trn q0 B) v w, qf_tch (qf_trn q0 B) u w, qf_tch (qf_trn q0 B) u v] := by
      simp only [lk, qf_mul, qf_tch_trn]
    rw [hkey] at hk3
    simp only [List.mem_cons, List.not_mem_nil, or_false, forall_eq_or_imp, forall_eq] at hk3
    obtain ⟨rd, re, rf⟩ := hk3
    generalize qf_tch (qf_trn q0 B) v w = d' at *
    generalize qf_tch (qf_trn q0 B) u w = e' at *
    generalize qf_tch (qf_trn q0 B) u v = f' at *
    obtain ⟨⟨b0, b1, b2⟩, d, e, f, T, n, hl, ht, hn, hb⟩ := hst
    have hnew : ∀ tb, al9 tb (qf_mul (u, v, w) B) → (n = 0 ∨ lx_lt [d', e', f'] [d, e, f] = true) → lsR q0 α β γ (cs ++ [qf_mul (u, v, w) B]) 1 (vp_updL (vp_updL (vp_updL least 3 (Int64.ofInt d')) 4 (Int64.ofInt e')) 5 (Int64.ofInt f')) tb := by
      intro tb htb h9
      have h8 := ls_lt hl (qf_mul (u, v, w) B) (by rw [hkey]; exact h9)
      rw [hkey] at h8
      exact ⟨⟨by simp [vp_updL, b0], by simp [vp_updL, b1], by simp [vp_updL, b2]⟩, d', e', f', _, 1, h8, rfl, by simp, fun _ => ⟨by simp [vp_updL], by simp [vp_updL], by simp [vp_updL], htb, ⟨rd, re, rf⟩, hk9⟩⟩
    obtain ⟨tb1, tr1, f1, h1⟩ := tt_one hi hj hk hu hv hw hB table tried hF
    by_cases h0 : n = 0
    · subst h0
      have ht : turns = 0 := ht
      rw [ht, tr_first, f1]
      exact ⟨_, _, _, _, rfl, hnew tb1 h1 (Or.inl rfl)⟩
    · have hn0 : 0 < n := by omega
      obtain ⟨c3, c4, c5, c9, ⟨sd, se, sf⟩, rT⟩ := hb hn0
      have hne : ¬ turns = 0 := by rw [ht, ix_0, ix_eq (by omega) (by omega)]; omega
      have hn1 : ¬ turns + 1 = 1 := by rw [ht, ix_1, ix_add, ix_eq (by omega) (by omega)]; omega
      rw [tr_next F hne, c3, c4, c5]
      have iff1 : (Int64.ofInt d' < Int64.ofInt d ∨ (Int64.ofInt d' = Int64.ofInt d ∧ (Int64.ofInt e' < Int64.ofInt e ∨ (Int64.ofInt e' = Int64.ofInt e ∧ ¬ Int64.ofInt f ≤ Int64.ofInt f')))) ↔ lx_lt [d', e', f'] [d, e, f] = true := by
        rw [zl_lt rd sd, zl_eq rd sd, zl_lt re se, zl_eq re se, zl_le sf rf]
        simp only [lx_lt, Bool.or_eq_true, decide_eq_true_eq, Bool.and_eq_true, Bool.false_eq_true, and_false, or_false]
        omega
      have iff2 : (Int64.ofInt d' = Int64.ofInt d ∧ Int64.ofInt e' = Int64.ofInt e ∧ Int64.ofInt f' = Int64.ofInt f) ↔ [d', e', f'] = [d, e, f] := by
        rw [zl_eq rd sd, zl_eq re se, zl_eq rf sf]
        simp
      by_cases g1 : lx_lt [d', e', f'] [d, e, f] = true
      · rw [if_pos (iff1.mpr g1), f1]
        exact ⟨_, _, _, _, rfl, hnew tb1 h1 (Or.inr g1)⟩
      · rw [if_neg (fun h => g1 (iff1.mp h))]
        by_cases g2 : [d', e', f'] = [d, e, f]
        · rw [if_pos (iff2.mpr g2)]
          obtain ⟨tb2, tr2, f2, h2⟩ := tt_more hi hj hk hu hv hw hB c9 hk9 rT tried hn1 hF
          rw [f2]
          have h8 := ls_eq hl (qf_mul (u, v, w) B) hn0 (hkey.trans g2)
          refine ⟨_, _, _, _, rfl, ⟨b0, b1, b2⟩, d, e, f, _, n + 1, h8, by rw [ht, ix_1, ix_add], by simp; omega, fun _ => ⟨c3, c4, c5, h2, ⟨sd, se, sf⟩, ?_⟩⟩
          split
          · exact hk9
          · exact rT
        · rw [if_neg (fun h => g2 (iff2.mp h))]
          have g4 : lx_lt [d, e, f] [d', e', f'] = true := by
            cases g5 : lx_lt [d, e, f] [d', e', f'] with
            | true => rfl
            | false => exact absurd (lx_tri (l := [d', e', f']) (m := [d, e, f]) rfl (by simpa using g1) g5) g2
          have h8 := ls_gt hl (qf_mul (u, v, w) B) hn0 (by rw [hkey]; exact g4)
          exact ⟨_, _, _, _, rfl, ⟨b0, b1, b2⟩, d, e, f, _, n, h8, ht, by simp; omega, fun h => hb h⟩
  · rw [if_neg hg, if_neg (fun h => hg (Or.inl h)), if_neg (fun h => hg (Or.inr h))]
    exact ⟨_, _, _, _, rfl, hst⟩
