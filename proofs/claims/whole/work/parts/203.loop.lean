/-! THE LAW'S LOOP -/
theorem nIz {n : Nat} (h : n ≤ 2147483647) : nI n = Int32.ofInt (n : Int) := Int32.toInt_inj.mp (by rw [nI_toInt (by omega), zi_toInt ⟨by omega, by omega⟩])
theorem in12_of {i L : Nat} (h : i + 12 ≤ L) (hL : L ≤ 6144) : in12 (nI i) L := by
  have key : ∀ k : Nat, k < 12 → vp_in (nI i + nI k) L := fun k hk => by rw [nI_add]; exact vp_in_nI (by omega) (by omega)
  exact ⟨key 1 (by decide), key 2 (by decide), key 3 (by decide), key 4 (by decide), key 5 (by decide), key 6 (by decide), key 7 (by decide), key 8 (by decide), key 9 (by decide), key 10 (by decide), key 11 (by decide)⟩
set_option maxHeartbeats 4000000 in
set_option maxRecDepth 100000 in
theorem law_loop {p : Program} {l : Launch} {e : Env} {s : State} {m : MethodId} {below : List Frame} {meth : Method} {c : Code} {b0 L : Nat} {xs : Nat → Int32} (hL : L ≤ 6144) (C0 : lw_At p s m meth c b0 L xs) {A : Nat → Prop} (hA : ∀ q, s.heap.size ≤ q → A q) (hA2 : ∀ q, A q → s.heap.size ≤ q) (hbA : ¬ A b0) {dC : Nat → ClassId} {dI : Nat → Nat → Nat} {cI cJ cF cG : ClassId} {h : Nat} {a ra la fo : Nat → Nat} {ga ya mb pb : Nat → Nat → Nat} {hm : Nat} {am : Nat → Nat} (hK : va_K (dC, dI) vwCl [(cI, .int), (cF, .object "KinForms$Form"), (cG, .array .int), (cJ, .long)] s) (hN : NW s) (hAD : AD A cI cJ cF cG h a ra la fo ga ya mb pb hm am) {cells slots : Nat} (hfit : cells ≤ 600000 ∧ slots ≤ 7302250) :
    ∀ (n i : Nat), L + 12 ≤ i + 12 * n → i ≤ L + 12 → ∀ (b : BS) (F : Nat → FS) (x : MS) (H : Heap) (locs : List Loc), CW (dC, dI) cI cJ cF cG h a ra la fo ga ya mb pb hm am b F x H → INVb b F x → va_S A s.heap H locs → ∀ (ls : Array Slot), lv_has ls 4 [(0, .ref b0), (1, .ref h), (2, .ref hm), (3, .int (nI i))] → W p l e room_1 s m #[Value.ref b0] below meth c H locs cells slots (lw_Z below #[Value.ref b0] s) (F0 m 18 ls []) := by
  obtain ⟨hx, hb, hr, hml, hown, hts, hX, hbl, hlocks, hgv⟩ := id C0
  intro n
  induction n with
  | zero =>
    intro i h1 h2 b F x H locs hC hI hS ls hl
    refine lv_iload_n hx hb dL_law_18 rfl (lv_at hl 3 rfl) ?_
    refine lv_aload_n hx hb dL_law_19 rfl (lv_at hl 0 rfl) ?_
    refine va_slen hx hb hX hbl hbA hS dL_law_20 ?_
    refine lv_bipush (v := 12) hx hb dL_law_21 (by decide) ?_
    refine lv_isub hx hb dL_law_23 ?_
    refine lv_icmp_gt (tgt := 994) hx hb dL_law_24 (by decide) (fun _ => ?_) (fun c9 => ?_)
    · refine lv_iconst (v := 1) hx hb dL_law_994 (by decide) ?_
      refine va_forget (fun q hq => hA2 _ (hS.2.2 q hq)) ?_
      refine W.widen (k := 600000) (n := 7302250) hfit.1 hfit.2 ?_
      exact lw_ret hx hb hr hlocks dL_law_995
    · exfalso
      apply c9
      have e1 : (Int32.ofNat L : Int32) = Int32.ofInt (L : Int) := nIz (by omega)
      have e2 : (12 : Int32) = Int32.ofInt 12 := by decide
      rw [e1, e2, ← Int32.ofInt_sub, nIz (by omega), zi_lt ⟨by omega, by omega⟩ ⟨by omega, by omega⟩]
      omega
  | succ n ih =>
    intro i h1 h2 b F x H locs hC hI hS ls hl
    refine lv_iload_n hx hb dL_law_18 rfl (lv_at hl 3 rfl) ?_
    refine lv_aload_n hx hb dL_law_19 rfl (lv_at hl 0 rfl) ?_
    refine va_slen hx hb hX hbl hbA hS dL_law_20 ?_
    refine lv_bipush (v := 12) hx hb dL_law_21 (by decide) ?_
    refine lv_isub hx hb dL_law_23 ?_
    refine lv_icmp_gt (tgt := 994) hx hb dL_law_24 (by decide) (fun _ => ?_) (fun c9 => ?_)
    · refine lv_iconst (v := 1) hx hb dL_law_994 (by decide) ?_
      refine va_forget (fun q hq => hA2 _ (hS.2.2 q hq)) ?_
      refine W.widen (k := 600000) (n := 7302250) hfit.1 hfit.2 ?_
      exact lw_ret hx hb hr hlocks dL_law_995
    · have hle : i + 12 ≤ L := by
        have e1 : (Int32.ofNat L : Int32) = Int32.ofInt (L : Int) := nIz (by omega)
        have e2 : (12 : Int32) = Int32.ofInt 12 := by decide
        rw [e1, e2, ← Int32.ofInt_sub, nIz (by omega), zi_lt ⟨by omega, by omega⟩ ⟨by omega, by omega⟩] at c9
        omega
      have hin := in12_of hle hL
      have kk : ∀ (H1 : Heap) (locs1 : List Loc) (b1 : BS) (F1 : Nat → FS) (x1 : MS), CW (dC, dI) cI cJ cF cG h a ra la fo ga ya mb pb hm am b1 F1 x1 H1 → INVb b1 F1 x1 → va_S A s.heap H1 locs1 → W p l e room_1 s m #[Value.ref b0] below meth c H1 locs1 cells slots (lw_Z below #[Value.ref b0] s) (F0 m 988 ls []) := by
        intro H1 locs1 b1 F1 x1 hC1 hI1 hS1
        obtain ⟨y, ey⟩ : ∃ y : Int32, y = nI i + 12 := ⟨_, rfl⟩
        refine lv_iinc (v := y) (lv' := [(3, .int y), (0, .ref b0), (1, .ref h), (2, .ref hm)]) hx hb dL_law_988 hl (k := 3) rfl (by rw [ey]; rfl) (by decide) rfl (fun ls hl => ?_)
        refine lv_goto (tgt := 18) hx hb dL_law_991 (by decide) ?_
        have ey2 : y = nI (i + 12) := by rw [ey]; exact nI_add i 12
        subst ey2
        exact ih (i + 12) (by omega) (by omega) b1 F1 x1 H1 locs1 hC1 hI1 hS1 ls (lv_sub hl [1, 2, 3, 0] rfl)
      refine lv_aload_n hx hb dL_law_27 rfl (lv_at hl 0 rfl) ?_
      refine lv_iload_n hx hb dL_law_28 rfl (lv_at hl 3 rfl) ?_
      refine va_sld hx hb hX hbl hbA hS (vp_in_nI (by omega) (by omega)) dL_law_29 ?_
      refine lv_bipush (v := 31) hx hb dL_law_30 (by decide) ?_
      refine lv_iand hx hb dL_law_32 ?_
      refine lv_topi (fun v ev => ?_)
      by_cases g : 0 ≤ v.toInt ∧ v.toInt ≤ 19
      · have g2 : v.toInt = 0 ∨ v.toInt = 1 ∨ v.toInt = 2 ∨ v.toInt = 3 ∨ v.toInt = 4 ∨ v.toInt = 5 ∨ v.toInt = 6 ∨ v.toInt = 7 ∨ v.toInt = 8 ∨ v.toInt = 9 ∨ v.toInt = 10 ∨ v.toInt = 11 ∨ v.toInt = 12 ∨ v.toInt = 13 ∨ v.toInt = 14 ∨ v.toInt = 15 ∨ v.toInt = 16 ∨ v.toInt = 17 ∨ v.toInt = 18 ∨ v.toInt = 19 := by omega
        rcases g2 with g0 | g1 | g2 | g3 | g4 | g5 | g6 | g7 | g8 | g9 | g10 | g11 | g12 | g13 | g14 | g15 | g16 | g17 | g18 | g19
        · refine lv_tableIn (off := 95) (tgt := 128) hx hb dL_law_33 (by omega) (by omega) (by rw [g0]; rfl) (by decide) ?_
          exact LC_form C0 hA hbA hK hN hAD hC hI hS hl hfit hin kk
        · refine lv_tableIn (off := 170) (tgt := 203) hx hb dL_law_33 (by omega) (by omega) (by rw [g1]; rfl) (by decide) ?_
          exact LC_set C0 hA hbA hK hN hAD hC hI hS hl hfit hin kk
        · refine lv_tableIn (off := 257) (tgt := 290) hx hb dL_law_33 (by omega) (by omega) (by rw [g2]; rfl) (by decide) ?_
          exact LC_drop C0 hA hbA hK hN hAD hC hI hS hl hfit hin kk
        · refine lv_tableIn (off := 270) (tgt := 303) hx hb dL_law_33 (by omega) (by omega) (by rw [g3]; rfl) (by decide) ?_
          exact LC_told C0 hA hbA hK hN hAD hC hI hS hl hfit hin kk
        · refine lv_tableIn (off := 303) (tgt := 336) hx hb dL_law_33 (by omega) (by omega) (by rw [g4]; rfl) (by decide) ?_
          exact LC_value C0 hA hbA hK hN hAD hC hI hS hl hfit hin kk
        · refine lv_tableIn (off := 356) (tgt := 389) hx hb dL_law_33 (by omega) (by omega) (by rw [g5]; rfl) (by decide) ?_
          exact LC_taken C0 hA hbA hK hN hAD hC hI hS hl hfit hin kk
        · refine lv_tableIn (off := 389) (tgt := 422) hx hb dL_law_33 (by omega) (by omega) (by rw [g6]; rfl) (by decide) ?_
          exact LC_least C0 hA hbA hK hN hAD hC hI hS hl hfit hin kk
        · refine lv_tableIn (off := 412) (tgt := 445) hx hb dL_law_33 (by omega) (by omega) (by rw [g7]; rfl) (by decide) ?_
          exact LC_same C0 hA hbA hK hN hAD hC hI hS hl hfit hin kk
        · refine lv_tableIn (off := 445) (tgt := 478) hx hb dL_law_33 (by omega) (by omega) (by rw [g8]; rfl) (by decide) ?_
          exact LC_table C0 hA hbA hK hN hAD hC hI hS hl hfit hin kk
        · refine lv_tableIn (off := 478) (tgt := 511) hx hb dL_law_33 (by omega) (by omega) (by rw [g9]; rfl) (by decide) ?_
          exact LC_turns C0 hA hbA hK hN hAD hC hI hS hl hfit hin kk
        · refine lv_tableIn (off := 613) (tgt := 646) hx hb dL_law_33 (by omega) (by omega) (by rw [g10]; rfl) (by decide) ?_
          exact LC_count C0 hA hbA hK hN hAD hC hI hS hl hfit hin kk
        · refine lv_tableIn (off := 626) (tgt := 659) hx hb dL_law_33 (by omega) (by omega) (by rw [g11]; rfl) (by decide) ?_
          exact LC_prime C0 hA hbA hK hN hAD hC hI hS hl hfit hin kk
        · refine lv_tableIn (off := 649) (tgt := 682) hx hb dL_law_33 (by omega) (by omega) (by rw [g12]; rfl) (by decide) ?_
          exact LC_line C0 hA hbA hK hN hAD hC hI hS hl hfit hin kk
        · refine lv_tableIn (off := 692) (tgt := 725) hx hb dL_law_33 (by omega) (by omega) (by rw [g13]; rfl) (by decide) ?_
          exact LC_neighbour C0 hA hbA hK hN hAD hC hI hS hl hfit hin kk
        · refine lv_tableIn (off := 735) (tgt := 768) hx hb dL_law_33 (by omega) (by omega) (by rw [g14]; rfl) (by decide) ?_
          exact LC_kin C0 hA hbA hK hN hAD hC hI hS hl hfit hin kk
        · refine lv_tableIn (off := 758) (tgt := 791) hx hb dL_law_33 (by omega) (by omega) (by rw [g15]; rfl) (by decide) ?_
          exact LC_kind C0 hA hbA hK hN hAD hC hI hS hl hfit hin kk
        · refine lv_tableIn (off := 801) (tgt := 834) hx hb dL_law_33 (by omega) (by omega) (by rw [g16]; rfl) (by decide) ?_
          exact LC_among C0 hA hbA hK hN hAD hC hI hS hl hfit hin kk
        · refine lv_tableIn (off := 834) (tgt := 867) hx hb dL_law_33 (by omega) (by omega) (by rw [g17]; rfl) (by decide) ?_
          exact LC_ways C0 hA hbA hK hN hAD hC hI hS hl hfit hin kk
        · refine lv_tableIn (off := 877) (tgt := 910) hx hb dL_law_33 (by omega) (by omega) (by rw [g18]; rfl) (by decide) ?_
          exact LC_weight C0 hA hbA hK hN hAD hC hI hS hl hfit hin kk
        · refine lv_tableIn (off := 911) (tgt := 944) hx hb dL_law_33 (by omega) (by omega) (by rw [g19]; rfl) (by decide) ?_
          exact LC_mean C0 hA hbA hK hN hAD hC hI hS hl hfit hin kk
      · refine lv_tableOut (tgt := 988) hx hb dL_law_33 (by omega) (by decide) ?_
        exact kk H locs b F x hC hI hS
