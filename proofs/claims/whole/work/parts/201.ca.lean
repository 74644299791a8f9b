/-! THE LAW'S TWENTY CASES -/
def INVb (b : BS) (F : Nat → FS) (x : MS) : Prop := ∃ hc p QF, INVx b.1 b.2.1 b.2.2.2.2.2.1 F x.1 x.2.1 x.2.2.2.2.2.2.2.2.1 hc p QF
def in12 (i : Int32) (L : Nat) : Prop := vp_in (i + 1) L ∧ vp_in (i + 2) L ∧ vp_in (i + 3) L ∧ vp_in (i + 4) L ∧ vp_in (i + 5) L ∧ vp_in (i + 6) L ∧ vp_in (i + 7) L ∧ vp_in (i + 8) L ∧ vp_in (i + 9) L ∧ vp_in (i + 10) L ∧ vp_in (i + 11) L
theorem kx (p0 : Int32) : ∃ k, k < 12 ∧ (okI p0 12 → p0.toNatClampNeg = k) := by
  by_cases g : okI p0 12
  · exact ⟨p0.toNatClampNeg, Nat.lt_of_not_le (fun t => g (Or.inr t)), fun _ => rfl⟩
  · exact ⟨0, by decide, fun t => absurd t g⟩
theorem tB54 (K : OT3) (gr td : Nat → Int32) : ∀ (n : Nat) (m : Int32), fX6_turnsB_L54 K gr td n m = fX6_turns_L54 K gr td n m
  | 0, m => rfl
  | n + 1, m => by
    rw [fX6_turnsB_L54, fX6_turns_L54]
    simp only [nm_eq, tB54 K gr td n]
theorem turnsB_eq (fu : Nat) (held : Int32) (gr td fn : Nat → Int32) (p0 p1 p2 p3 p4 p5 p6 p7 p8 p9 p10 : Int32) : fX6_turnsB fu held gr td fn p0 p1 p2 p3 p4 p5 p6 p7 p8 p9 p10 = fX6_turns fu held gr td fn fn p0 p1 p2 p3 p4 p5 p6 p7 p8 p9 p10 := by
  unfold fX6_turnsB fX6_turns
  simp only [tB54]
