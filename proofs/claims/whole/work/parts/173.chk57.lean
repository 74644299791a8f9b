/-! the two bases of a neighbour: P = 5, P = 7 -/
def ckL (p : Nat) (l : V3) : Bool := (ptsP p).all (fun rho => !decide (dot l rho % (p : Int) = 0) || (List.range p).all (fun t => ck1 p (fstN rho) rho (zW l p (t : Int) (fstN rho))))
theorem ck5_0 : (((ptsP 5).drop 0).take 8).all (ckL 5) = true := by decide +kernel
theorem ck5_1 : (((ptsP 5).drop 8).take 8).all (ckL 5) = true := by decide +kernel
theorem ck5_2 : (((ptsP 5).drop 16).take 8).all (ckL 5) = true := by decide +kernel
theorem ck5_3 : (((ptsP 5).drop 24).take 8).all (ckL 5) = true := by decide +kernel
theorem ck7_0 : (((ptsP 7).drop 0).take 8).all (ckL 7) = true := by decide +kernel
theorem ck7_1 : (((ptsP 7).drop 8).take 8).all (ckL 7) = true := by decide +kernel
theorem ck7_2 : (((ptsP 7).drop 16).take 8).all (ckL 7) = true := by decide +kernel
theorem ck7_3 : (((ptsP 7).drop 24).take 8).all (ckL 7) = true := by decide +kernel
theorem ck7_4 : (((ptsP 7).drop 32).take 8).all (ckL 7) = true := by decide +kernel
theorem ck7_5 : (((ptsP 7).drop 40).take 8).all (ckL 7) = true := by decide +kernel
theorem ck7_6 : (((ptsP 7).drop 48).take 8).all (ckL 7) = true := by decide +kernel
theorem ck7_7 : (((ptsP 7).drop 56).take 8).all (ckL 7) = true := by decide +kernel
theorem all_8 {α : Type} (P : α → Bool) (l : List α) (h : ∀ i, i < 8 → ((l.drop (8 * i)).take 8).all P = true) (hl : l.length ≤ 64) : l.all P = true := by
  rw [List.all_eq_true]
  intro x hx
  obtain ⟨k, hk⟩ := List.getElem?_of_mem hx
  have hlt := (List.getElem?_eq_some_iff.mp hk).1
  have h1 := h (k / 8) (by omega)
  rw [List.all_eq_true] at h1
  refine h1 x ?_
  refine List.mem_of_getElem? (i := k % 8) ?_
  rw [List.getElem?_take, if_pos (by omega), List.getElem?_drop]
  have e : 8 * (k / 8) + k % 8 = k := by omega
  rw [e]
  exact hk
theorem ckA5 : (ptsP 5).all (ckL 5) = true := by
  refine all_8 _ _ (fun i hi => ?_) (by decide)
  have : i = 0 ∨ i = 1 ∨ i = 2 ∨ i = 3 ∨ (i = 4 ∨ i = 5 ∨ i = 6 ∨ i = 7) := by omega
  rcases this with e | e | e | e | e | e | e | e
  · subst e; exact ck5_0
  · subst e; exact ck5_1
  · subst e; exact ck5_2
  · subst e; exact ck5_3
  · subst e; rfl
  · subst e; rfl
  · subst e; rfl
  · subst e; rfl
theorem ckA7 : (ptsP 7).all (ckL 7) = true := by
  refine all_8 _ _ (fun i hi => ?_) (by decide)
  have : i = 0 ∨ i = 1 ∨ i = 2 ∨ i = 3 ∨ (i = 4 ∨ i = 5 ∨ i = 6 ∨ i = 7) := by omega
  rcases this with e | e | e | e | e | e | e | e
  · subst e; exact ck7_0
  · subst e; exact ck7_1
  · subst e; exact ck7_2
  · subst e; exact ck7_3
  · subst e; exact ck7_4
  · subst e; exact ck7_5
  · subst e; exact ck7_6
  · subst e; exact ck7_7
