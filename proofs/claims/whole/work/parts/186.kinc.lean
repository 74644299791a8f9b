/-! kin: the class's placeOf, welcome, visit -/
def CK (K : KS) (size many : Int32) (tu : Nat → Int32) (mem path : Nat → Nat → Int32) : Prop := size = ix K.1.length ∧ many = (if K.2.2 = true then 1 else 0) ∧ (∀ (i : Nat) (x : F6 × Nat), K.1[i]? = some x → a6 (mem i) x.1 ∧ tu i = ix x.2) ∧ ∀ i j, i < K.1.length → j < 16 → path i j = ix (K.2.1 i j)
theorem x0_pl {D : Int} {K : KS} (hg : Kg D K) (hD : D ≤ 6912) {mem : Nat → Nat → Int32} (hm : ∀ (i : Nat) (x : F6 × Nat), K.1[i]? = some x → a6 (mem i) x.1) {num : Nat → Int32} {L : F6} (hn : a6 num L) (hL : qs_ L) {F : Nat} (hF : 100 ≤ F) : fX0_placeOf F (ix K.1.length) num mem = some (plI (plN K.1 L 0)) := by
  obtain ⟨g1, g2, g3, g4⟩ := hg
  have key : ∀ (k n j : Nat), j + k = K.1.length → k + 1 ≤ n → fX0_placeOf_L2 (ix K.1.length) F mem num n (ix j) = some (plI (plN (K.1.drop j) L j)) := by
    intro k
    induction k with
    | zero =>
      intro n j e1 e2
      obtain ⟨n, rfl⟩ : ∃ m, n = m + 1 := ⟨n - 1, by omega⟩
      rw [fX0_placeOf_L2, if_pos ((ix_le (by omega) (by omega)).mpr (by omega)), List.drop_eq_nil_of_le (by omega)]
      rfl
    | succ k ih =>
      intro n j e1 e2
      obtain ⟨n, rfl⟩ : ∃ m, n = m + 1 := ⟨n - 1, by omega⟩
      have hj : j < K.1.length := by omega
      have hx : K.1[j]? = some K.1[j] := List.getElem?_eq_getElem hj
      have hxg := g3 _ (List.getElem_mem hj)
      have hqx : qs_ (K.1[j]).1 := qs_S hxg.1 (by rw [hxg.2.2.1]; exact hD)
      rw [fX0_placeOf_L2, if_neg (fun g => by have := (ix_le (by omega) (by omega)).mp g; omega), if_pos (ix_ok (by omega) (by decide))]
      rw [ix_nat (by omega), x4_alike (hm j _ hx) hn (qs_l6 hqx) (qs_l6 hL) hF, bd1_s, List.drop_eq_getElem_cons hj, plN]
      by_cases g : (K.1[j]).1 = L
      · rw [if_pos g, if_neg (by decide), if_pos g]; rfl
      · rw [if_neg g, if_pos rfl, if_neg g]
        simp only [nm_eq]
        rw [ix_1, ix_add]
        exact ih n (j + 1) (by omega) (by omega)
  have := key K.1.length F 0 (by omega) (by omega)
  rw [List.drop_zero] at this
  exact this
abbrev O5 : Type := Option (Int32 × (Int32) × (Nat → Int32) × (Nat → Nat → Int32) × (Nat → Nat → Int32))
theorem x0_L40 (K : (Nat → Nat → Int32) → O5) {s : Nat} (hs : s < 16) : ∀ (k n j : Nat) (path : Nat → Nat → Int32), j + k = 16 → k + 1 ≤ n → (∀ c, c < j → path s c = 0) → ∃ path', fX0_welcome_L40 K (ix s) n (ix j) path = K path' ∧ (∀ i, i ≠ s → path' i = path i) ∧ ∀ c, c < 16 → path' s c = 0 := by
  intro k
  induction k with
  | zero =>
    intro n j path e1 e2 h
    obtain ⟨n, rfl⟩ : ∃ m, n = m + 1 := ⟨n - 1, by omega⟩
    have ej : j = 16 := by omega
    subst ej
    exact ⟨path, by rw [fX0_welcome_L40, if_pos (by decide)], fun i _ => rfl, h⟩
  | succ k ih =>
    intro n j path e1 e2 h
    obtain ⟨n, rfl⟩ : ∃ m, n = m + 1 := ⟨n - 1, by omega⟩
    have e16 : (16 : Int32) = ix 16 := rfl
    obtain ⟨path', f1, f2, f3⟩ := ih n (j + 1) (va_up path s (upd (path s) j 0)) (by omega) (by omega) (by
      intro c hc
      show va_up path s (upd (path s) j 0) s c = 0
      rw [va_up, if_pos rfl, upd]
      by_cases g : c = j
      · rw [if_pos g]
      · rw [if_neg g]; exact h c (by omega))
    refine ⟨path', ?_, ?_, f3⟩
    · rw [fX0_welcome_L40, if_neg (by rw [e16, ix_le (by decide) (by omega)]; omega), if_pos (ix_ok hs (by decide)), if_pos (ix_ok (by omega) (by decide))]
      simp only [nm_eq, ix_nat (show s ≤ 2147483647 by omega), ix_nat (show j ≤ 2147483647 by omega)]
      rw [ix_1, ix_add]
      exact f1
    · intro i hi
      rw [f2 i hi, va_up, if_neg hi]
theorem x0_wel {K : KS} {tu : Nat → Int32} {mem path : Nat → Nat → Int32} (hm : ∀ (i : Nat) (x : F6 × Nat), K.1[i]? = some x → a6 (mem i) x.1 ∧ tu i = ix x.2) (hlen : K.1.length < 16) {num : Nat → Int32} {L : F6} (hn : a6 num L) (n : Nat) {F : Nat} (hF : 100 ≤ F) : ∃ tu' mem' path', fX0_welcome F (ix K.1.length) tu num mem path (ix n) = some (ix K.1.length, ix (K.1.length + 1), tu', mem', path') ∧ (∀ (i : Nat) (x : F6 × Nat), (K.1 ++ [(L, n)])[i]? = some x → a6 (mem' i) x.1 ∧ tu' i = ix x.2) ∧ (∀ i, i ≠ K.1.length → path' i = path i) ∧ ∀ c, c < 16 → path' K.1.length c = 0 := by
  have e16 : (16 : Int32) = ix 16 := rfl
  obtain ⟨path', f1, f2, f3⟩ := x0_L40 (fun y_path_9 => some (ix K.1.length, ix (K.1.length + 1), upd tu K.1.length (ix n), va_up mem K.1.length (va_cpy num (mem K.1.length) 0 0 6), y_path_9)) hlen 16 F 0 path (by omega) (by omega) (by intro c hc; omega)
  refine ⟨upd tu K.1.length (ix n), va_up mem K.1.length (va_cpy num (mem K.1.length) 0 0 6), path', ?_, ?_, f2, f3⟩
  · unfold fX0_welcome
    rw [if_pos (by rw [e16, ix_lt (by omega) (by decide)]; exact hlen), if_pos (ix_ok hlen (by decide))]
    simp only [nm_eq]
    rw [if_pos (ix_ok hlen (by decide))]
    have es : ix K.1.length + 1 - 1 = ix K.1.length := by rw [Int32.add_sub_cancel]
    simp only [ix_nat (show K.1.length ≤ 2147483647 by omega), es]
    have ea : ix K.1.length + 1 = ix (K.1.length + 1) := by rw [ix_1, ix_add]
    simp only [ea]
    exact f1
  · intro i x hx
    by_cases g : i = K.1.length
    · subst g
      rw [List.getElem?_append_right (Nat.le_refl _), Nat.sub_self] at hx
      cases hx
      refine ⟨?_, ?_⟩
      · rw [va_up, if_pos rfl]
        obtain ⟨h0, h1, h2, h3, h4, h5⟩ := hn
        exact ⟨h0, h1, h2, h3, h4, h5⟩
      · rw [upd, if_pos rfl]
    · have hi : i < K.1.length := by
        have := (List.getElem?_eq_some_iff.mp hx).1
        rw [List.length_append, List.length_singleton] at this
        omega
      rw [List.getElem?_append_left hi] at hx
      rw [va_up, if_neg g, upd, if_neg g]
      exact hm i x hx
theorem x0_full {tu : Nat → Int32} {mem path : Nat → Nat → Int32} (num : Nat → Int32) (t : Int32) (F : Nat) : fX0_welcome F (ix 16) tu num mem path t = some (-1, ix 16, tu, mem, path) := by
  unfold fX0_welcome
  rw [if_neg (by decide)]
theorem ix_ne1 {j : Nat} (h : j ≤ 1000) : ¬ ix j = -1 := by
  have e : (-1 : Int32) = Int32.ofInt (-1) := rfl
  unfold ix
  rw [e, zi_eq ⟨by omega, by omega⟩ ⟨by omega, by omega⟩]
  omega
theorem path_inc {path : Nat → Nat → Int32} {ms : List (F6 × Nat)} {wy : Nat → Nat → Nat} (h : ∀ i j, i < ms.length → j < 16 → path i j = ix (wy i j)) {fr b : Nat} (hfr : fr < ms.length) (hb : b < 16) : ∀ i j, i < ms.length → j < 16 → va_up path fr (upd (path fr) b (path fr b + 1)) i j = ix (inc wy fr b i j) := by
  intro i j hi hj
  unfold va_up inc
  by_cases g : i = fr
  · subst g
    rw [if_pos rfl, upd]
    by_cases g2 : j = b
    · subst g2
      rw [if_pos rfl, if_pos ⟨rfl, rfl⟩, h i j hi hj, ix_1, ix_add]
    · rw [if_neg g2, if_neg (fun t => g2 t.2), h i j hi hj]
  · rw [if_neg g, if_neg (fun t => g t.1), h i j hi hj]
