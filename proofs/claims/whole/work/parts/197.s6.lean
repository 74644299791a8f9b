/-! calls: weight, mean -/
def psum (f : F6 × Nat → Nat) : List (F6 × Nat) → Nat
  | [] => 0
  | x :: xs => f x + psum f xs
theorem psum_le (f : F6 × Nat → Nat) (B : Nat) : ∀ l : List (F6 × Nat), (∀ x ∈ l, f x ≤ B) → psum f l ≤ B * l.length
  | [], _ => Nat.zero_le _
  | x :: xs, h => by
    have h1 := h x List.mem_cons_self
    have h2 := psum_le f B xs (fun y hy => h y (List.mem_cons_of_mem _ hy))
    rw [psum, List.length_cons, Nat.mul_succ]
    omega
theorem psum_drop (f : F6 × Nat → Nat) {l : List (F6 × Nat)} {i : Nat} (hi : i < l.length) : psum f (l.drop i) = f l[i] + psum f (l.drop (i + 1)) := by
  rw [List.drop_eq_getElem_cons hi, psum]
theorem x0_partsOf {tu : Nat → Int32} {i n : Nat} (hi : i < 16) (ht : tu i = ix n) (hn : n ∣ 48) (hn0 : 0 < n) : fX0_partsOf tu (ix i) = some (zn (48 / n)) := by
  have hn48 : n ≤ 48 := Nat.le_of_dvd (by decide) hn
  have h48 : 48 / n ≤ 48 := Nat.div_le_self _ _
  have e48 : (48 : Int32) = ix 48 := rfl
  unfold fX0_partsOf
  rw [if_pos (ix_ok hi (by decide))]
  dsimp only [nm_eq]
  simp only [ix_nat (show i ≤ 2147483647 by omega), ht]
  rw [if_neg (by rw [ix_0, ix_le (by omega) (by decide)]; omega), if_pos (ix_ok hi (by decide)), if_pos (by rw [ix_0, ix_eq (by omega) (by decide)]; omega), e48, ix_div (by decide) (by omega), ix_wide (by omega)]
  rfl
theorem x0_all {D : Int} {K : KS} (hg : Kg D K) {tu : Nat → Int32} (ht : ∀ (i : Nat) (x : F6 × Nat), K.1[i]? = some x → tu i = ix x.2) {F : Nat} (hF : 100 ≤ F) : fX0_partsOfAll F (ix K.1.length) tu = some (zn (psum (fun x => 48 / x.2) K.1)) := by
  obtain ⟨g1, g2, g3, g4⟩ := hg
  have key : ∀ (k n i A : Nat), i + k = K.1.length → k + 1 ≤ n → fX0_partsOfAll_L4 (ix K.1.length) tu n (zn A) (ix i) = some (zn (A + psum (fun x => 48 / x.2) (K.1.drop i))) := by
    intro k
    induction k with
    | zero =>
      intro n i A e1 e2
      obtain ⟨n, rfl⟩ : ∃ m, n = m + 1 := ⟨n - 1, by omega⟩
      rw [fX0_partsOfAll_L4, if_pos ((ix_le (by omega) (by omega)).mpr (by omega)), List.drop_eq_nil_of_le (by omega)]
      rfl
    | succ k ih =>
      intro n i A e1 e2
      obtain ⟨n, rfl⟩ : ∃ m, n = m + 1 := ⟨n - 1, by omega⟩
      have hi : i < K.1.length := by omega
      have hx : K.1[i]? = some K.1[i] := List.getElem?_eq_getElem hi
      have hxg := g3 _ (List.getElem_mem hi)
      rw [fX0_partsOfAll_L4, if_neg (fun g => by have := (ix_le (by omega) (by omega)).mp g; omega), x0_partsOf (by omega) (ht i _ hx) hxg.2.2.2.1 hxg.2.2.2.2, bd1_s]
      dsimp only [nm_eq]
      rw [zn_add, ix_1, ix_add, ih n (i + 1) _ (by omega) (by omega), psum_drop _ hi, Nat.add_assoc]
  have := key K.1.length F 0 0 (by omega) (by omega)
  rw [List.drop_zero, Nat.zero_add] at this
  exact this
/-- how often a least form takes a number, by a function -/
noncomputable def cntF (L : F6) (N : Int) : Nat := Classical.epsilon (fun k => cnt_ L N k)
theorem cntF_of {L : F6} {N : Int} {k : Nat} (h : cnt_ L N k) : cntF L N = k := by
  have h1 : cnt_ L N (cntF L N) := Classical.epsilon_spec (p := fun k => cnt_ L N k) ⟨k, h⟩
  exact cnt_eq h1 h
def cn_code (a e f : Int) (v : V3) : Nat := (82 * (v.2.1 + 20) + 2 * (v.2.2 + 20) + (if 0 ≤ 2 * a * v.1 + f * v.2.1 + e * v.2.2 then 1 else 0)).toNat
theorem sq20 {y B : Int} (hB : 1 ≤ B) (h : B * (y * y) ≤ 400) : -20 ≤ y ∧ y ≤ 20 := by
  have h1 := Int.mul_le_mul_of_nonneg_right hB (qf_sq y)
  constructor
  · rcases qf_lg y (-20) with g | g
    · have : 0 ≤ (-y - 21) * (-y + 21) := Int.mul_nonneg (by omega) (by omega)
      have e9 : (-y - 21) * (-y + 21) = y * y - 441 := by grind
      omega
    · exact g
  · rcases qf_lg 20 y with g | g
    · have : 0 ≤ (y - 21) * (y + 21) := Int.mul_nonneg (by omega) (by omega)
      have e9 : (y - 21) * (y + 21) = y * y - 441 := by grind
      omega
    · exact g
theorem cnt_le {q : F6} (h : qr_S q) (hp : qf_pd q) {N : Int} (hN : 0 ≤ N ∧ N ≤ 100) {k : Nat} (hc : cnt_ q N k) : k ≤ 3362 := by
  obtain ⟨l, hl, hm, rfl⟩ := hc
  have hab := qr_abc h
  have yz : ∀ v ∈ l, (-20 ≤ v.2.1 ∧ v.2.1 ≤ 20) ∧ (-20 ≤ v.2.2 ∧ v.2.2 ≤ 20) := by
    intro v hv
    have hv := (hm v).mp hv
    have r1 := qf_reach_y hp v
    have r2 := qf_reach_z hp v
    rw [hv] at r1 r2
    have ha := h.1
    have hb : 0 < q.2.1 := by have := h.2.1; omega
    have hc : 0 < q.2.2.1 := by have := h.2.2.1; omega
    constructor
    · have t1 := Int.mul_le_mul_of_nonneg_right hab (qf_sq v.2.1)
      have t2 := Int.mul_nonneg (qf_sq q.2.2.2.2.1) hN.1
      have t3 := Int.mul_nonneg (Int.mul_nonneg (show 0 ≤ q.1 by omega) (show 0 ≤ q.2.2.1 by omega)) (show 0 ≤ 100 - N by omega)
      have t4 : (4 * q.1 * q.2.2.1 - q.2.2.2.2.1 * q.2.2.2.2.1) * N = 4 * (q.1 * q.2.2.1) * N - q.2.2.2.2.1 * q.2.2.2.2.1 * N := by grind
      have t5 : q.1 * q.2.2.1 * (100 - N) = 100 * (q.1 * q.2.2.1) - q.1 * q.2.2.1 * N := by grind
      have t6 : 4 * (q.1 * q.2.2.1) * N = 4 * (q.1 * q.2.2.1 * N) := by grind
      have t7 : q.1 * q.2.1 * q.2.2.1 * (v.2.1 * v.2.1) = (q.1 * q.2.2.1) * (q.2.1 * (v.2.1 * v.2.1)) := by grind
      have t8 : (q.1 * q.2.2.1) * (400 - q.2.1 * (v.2.1 * v.2.1)) = 400 * (q.1 * q.2.2.1) - (q.1 * q.2.2.1) * (q.2.1 * (v.2.1 * v.2.1)) := by grind
      have t9 := qf_nn_of (Int.mul_pos ha hc) (v := 400 - q.2.1 * (v.2.1 * v.2.1)) (by omega)
      exact sq20 (show 1 ≤ q.2.1 by omega) (by omega)
    · have t1 := Int.mul_le_mul_of_nonneg_right hab (qf_sq v.2.2)
      have t2 := Int.mul_nonneg (qf_sq q.2.2.2.2.2) hN.1
      have t3 := Int.mul_nonneg (Int.mul_nonneg (show 0 ≤ q.1 by omega) (show 0 ≤ q.2.1 by omega)) (show 0 ≤ 100 - N by omega)
      have t4 : (4 * q.1 * q.2.1 - q.2.2.2.2.2 * q.2.2.2.2.2) * N = 4 * (q.1 * q.2.1) * N - q.2.2.2.2.2 * q.2.2.2.2.2 * N := by grind
      have t5 : q.1 * q.2.1 * (100 - N) = 100 * (q.1 * q.2.1) - q.1 * q.2.1 * N := by grind
      have t6 : 4 * (q.1 * q.2.1) * N = 4 * (q.1 * q.2.1 * N) := by grind
      have t7 : q.1 * q.2.1 * q.2.2.1 * (v.2.2 * v.2.2) = (q.1 * q.2.1) * (q.2.2.1 * (v.2.2 * v.2.2)) := by grind
      have t8 : (q.1 * q.2.1) * (400 - q.2.2.1 * (v.2.2 * v.2.2)) = 400 * (q.1 * q.2.1) - (q.1 * q.2.1) * (q.2.2.1 * (v.2.2 * v.2.2)) := by grind
      have t9 := qf_nn_of (Int.mul_pos ha hb) (v := 400 - q.2.2.1 * (v.2.2 * v.2.2)) (by omega)
      exact sq20 (show 1 ≤ q.2.2.1 by omega) (by omega)
  refine nd_code (cn_code q.1 q.2.2.2.2.1 q.2.2.2.2.2) 3362 hl (fun v h1 w h2 e => ?_) (fun v h1 => ?_)
  · obtain ⟨y1, z1⟩ := yz v h1
    obtain ⟨y2, z2⟩ := yz w h2
    have v1 := (hm v).mp h1
    have w1 := (hm w).mp h2
    have ha := h.1
    obtain ⟨x, y, z⟩ := v
    obtain ⟨x', y', z'⟩ := w
    obtain ⟨a, b, c, d, ee, f⟩ := q
    simp only [cn_code, qf_val] at *
    have e1 : y = y' ∧ z = z' ∧ (0 ≤ 2 * a * x + f * y + ee * z ↔ 0 ≤ 2 * a * x' + f * y' + ee * z') := by
      split at e <;> split at e <;> omega
    obtain ⟨e1, e2, e3⟩ := e1
    subst e1; subst e2
    have j1 : (a * (x - x')) * ((2 * a * x + f * y + ee * z) + (2 * a * x' + f * y + ee * z)) = 2 * a * ((a * x * x + b * y * y + c * z * z + d * y * z + ee * x * z + f * x * y) - (a * x' * x' + b * y * y + c * z * z + d * y * z + ee * x' * z + f * x' * y)) := by grind
    rw [v1, w1, Int.sub_self, Int.mul_zero] at j1
    have j2 : x = x' := by
      rcases Int.mul_eq_zero.mp j1 with j | j
      · rcases Int.mul_eq_zero.mp j with j | j <;> omega
      · have j3 : 2 * a * x + f * y + ee * z = 0 ∧ 2 * a * x' + f * y + ee * z = 0 := by omega
        have j4 : (2 * a) * (x - x') = 0 := by
          have : (2 * a) * (x - x') = (2 * a * x + f * y + ee * z) - (2 * a * x' + f * y + ee * z) := by grind
          omega
        rcases Int.mul_eq_zero.mp j4 with j | j <;> omega
    rw [j2]
  · obtain ⟨y1, z1⟩ := yz v h1
    unfold cn_code
    split <;> omega
theorem pw_of {L : F6} (h : qr_S L) : pw_ L := by
  obtain ⟨h1, h2, h3, h4, h5, h6, _⟩ := h
  exact ⟨⟨by omega, by omega, by omega⟩, ⟨by omega, by omega, by omega, by omega⟩, ⟨by omega, by omega, by omega, by omega⟩, ⟨by omega, by omega, by omega, by omega⟩⟩
theorem x0_taking {D : Int} (hD : D ≤ 6912) {K : KS} (hg : Kg D K) {tu : Nat → Int32} {mem : Nat → Nat → Int32} (ht : ∀ (i : Nat) (x : F6 × Nat), K.1[i]? = some x → a6 (mem i) x.1 ∧ tu i = ix x.2) {N : Int} (hN : 0 ≤ N ∧ N ≤ 100) {F : Nat} (hF : 100 ≤ F) : fX0_partsTaking F (ix K.1.length) tu mem (Int32.ofInt N) = some (zn (psum (fun x => 48 / x.2 * cntF x.1 N) K.1)) := by
  obtain ⟨g1, g2, g3, g4⟩ := hg
  have key : ∀ (k n i A : Nat), i + k = K.1.length → k + 1 ≤ n → fX0_partsTaking_L5 (ix K.1.length) tu F mem (Int32.ofInt N) n (zn A) (ix i) = some (zn (A + psum (fun x => 48 / x.2 * cntF x.1 N) (K.1.drop i))) := by
    intro k
    induction k with
    | zero =>
      intro n i A e1 e2
      obtain ⟨n, rfl⟩ : ∃ m, n = m + 1 := ⟨n - 1, by omega⟩
      rw [fX0_partsTaking_L5, if_pos ((ix_le (by omega) (by omega)).mpr (by omega)), List.drop_eq_nil_of_le (by omega)]
      rfl
    | succ k ih =>
      intro n i A e1 e2
      obtain ⟨n, rfl⟩ : ∃ m, n = m + 1 := ⟨n - 1, by omega⟩
      have hi : i < K.1.length := by omega
      have hx : K.1[i]? = some K.1[i] := List.getElem?_eq_getElem hi
      have hxg := g3 _ (List.getElem_mem hi)
      obtain ⟨c, ec, hc⟩ := x5_timesOf (ht i _ hx).1 hxg.2.1 hxg.1 (by rw [hxg.2.2.1]; exact hD) hN hF
      have hcl := cnt_le hxg.1 hxg.2.1 hN hc
      have ecF := cntF_of hc
      rw [fX0_partsTaking_L5, if_neg (fun g => by have := (ix_le (by omega) (by omega)).mp g; omega), x0_partsOf (by omega) (ht i _ hx).2 hxg.2.2.2.1 hxg.2.2.2.2, bd1_s, if_pos (ix_ok (by omega) (by decide)), ix_nat (by omega), ec, bd1_s]
      dsimp only [nm_eq]
      have ew : (ix c).toInt64 = zn c := ix_wide (by omega)
      rw [ew, zn_mul, zn_add, ix_1, ix_add, ih n (i + 1) _ (by omega) (by omega), psum_drop _ hi, ecF, Nat.add_assoc]
  have := key K.1.length F 0 0 (by omega) (by omega)
  rw [List.drop_zero, Nat.zero_add] at this
  exact this
theorem ex48 {n : Nat} (h : n ∣ 48) (h0 : 0 < n) : 1 ≤ 48 / n ∧ 48 / n ≤ 48 := ⟨(Nat.le_div_iff_mul_le h0).mpr (by have := Nat.le_of_dvd (by decide) h; omega), Nat.div_le_self _ _⟩
theorem l7_weigh {D : Int} {K : KS} (hg : Kg D K) {kt : Nat → Int32} (ht : ∀ (i : Nat) (x : F6 × Nat), K.1[i]? = some x → kt i = ix x.2) {F : Nat} (hF : 4000000000000 ≤ F) : fX7_weigh F (ix K.1.length) kt = some (zn (psum (fun x => 48 / x.2) K.1 / Nat.gcd (psum (fun x => 48 / x.2) K.1) 48), zn (48 / Nat.gcd (psum (fun x => 48 / x.2) K.1) 48)) := by
  obtain ⟨g1, g2, g3, g4⟩ := hg
  have key : ∀ (k n i A : Nat), i + k = K.1.length → k + 1 ≤ n → A + 48 * k ≤ 1000 → fX7_weigh_L12 (ix K.1.length) F kt n (ix i) (zn (A / Nat.gcd A 48)) (zn (48 / Nat.gcd A 48)) = some (zn ((A + psum (fun x => 48 / x.2) (K.1.drop i)) / Nat.gcd (A + psum (fun x => 48 / x.2) (K.1.drop i)) 48), zn (48 / Nat.gcd (A + psum (fun x => 48 / x.2) (K.1.drop i)) 48)) := by
    intro k
    induction k with
    | zero =>
      intro n i A e1 e2 e3
      obtain ⟨n, rfl⟩ : ∃ m, n = m + 1 := ⟨n - 1, by omega⟩
      rw [fX7_weigh_L12, if_pos ((ix_le (by omega) (by omega)).mpr (by omega)), List.drop_eq_nil_of_le (by omega)]
      rfl
    | succ k ih =>
      intro n i A e1 e2 e3
      obtain ⟨n, rfl⟩ : ∃ m, n = m + 1 := ⟨n - 1, by omega⟩
      have hi : i < K.1.length := by omega
      have hx : K.1[i]? = some K.1[i] := List.getElem?_eq_getElem hi
      have hxg := g3 _ (List.getElem_mem hi)
      have h48 := ex48 hxg.2.2.2.1 hxg.2.2.2.2
      have hn48 : (K.1[i]).2 ≤ 48 := Nat.le_of_dvd (by decide) hxg.2.2.2.1
      have ew : (ix (K.1[i]).2).toInt64 = zn (K.1[i]).2 := ix_wide (by omega)
      have ea := l7_add (X := A) (t := 1) (n := (K.1[i]).2) (by omega) (by decide) hxg.2.2.2.1 hxg.2.2.2.2 hF
      rw [fX7_weigh_L12, if_neg (fun g => by have := (ix_le (by omega) (by omega)).mp g; omega), if_pos (ix_ok (by omega) (by decide)), ix_nat (by omega), ht i _ hx, ew, zn_1, ea, bd2_s]
      dsimp only [nm_eq]
      rw [ix_1, ix_add, Nat.mul_one, ih n (i + 1) _ (by omega) (by omega) (by omega), psum_drop _ hi, Nat.add_assoc]
  have := key K.1.length F 0 0 (by omega) (by omega) (by omega)
  rw [List.drop_zero, Nat.zero_add] at this
  exact this

theorem S_weight {held p_ : Int32} {box : Nat → Int32} {F : Nat → FS} {forms prime : Int32} {num : Nat → Int32} {hc p : Nat} {QF : Nat → F6} (h : INVx held p_ box F forms prime num hc p QF) {k : Nat} (p0 p1 : Int32) (hk : okI p0 12 → p0.toNatClampNeg = k) (fo : Int32) (lp : Int32) (lt : Int32) (lu : Int32) (six : Nat → Int32) (all : Nat → Int32) (w : Nat → Int32) (b : Nat → Int32) (c : Nat → Int32) (ti : Int32) (s : Nat → Int32) (r : Nat → Int32) (wo : Nat → Int32) (im : Nat → Int32) (be : Nat → Int32) (br : Nat → Int32) (tn : Int32) (mt : Int32) (mu : Int32) (kinds : Int32) (up : Int64) (lo : Int64) (q : Nat → Int64) (ba : Nat → Int64) (le : Nat → Int64) (tb : Nat → Int64) (ro : Nat → Int64) (li : Nat → Int64) (sz : Nat → Int32) (tr : Nat → Int64) (ln : Nat → Int64) (mk : Nat → Int64) (tc : Nat → Int64) (md : Nat → Int64) (kf : Nat → Int64) (kt : Nat → Int32) (kw : Nat → Int32) {fu : Nat} (hfu : 4000000000000 ≤ fu) : ∃ a size' many' by_' tu' fo' lp' lt' lu' six' all' w' b' c' ti' s' r' wo' im' be' br' mem' path' tn' mt' mu' kinds' up' lo' q' ba' le' tb' ro' li' sz' tr' ln' mk' tc' md' kf' kt' kw', fX6_weight fu held p_ (F k).1 (F k).2.1 (F k).2.2.2.1 (F k).2.2.2.2.2.1 (F k).2.2.2.2.2.2.1 (F k).2.2.2.2.2.2.2.1 (F k).2.2.2.2.2.2.2.2.1 fo lp lt lu six all w b c ti s r box wo im be br (F k).2.2.2.2.2.2.2.2.2.1 (F k).2.2.2.2.2.2.2.2.2.2 p0 p1 = some (a, size', many', by_', tu', fo', lp', lt', lu', six', all', w', b', c', ti', s', r', wo', im', be', br', mem', path') ∧ fX7_weight fu forms prime tn mt mu kinds up lo num q ba le tb ro li sz tr ln mk tc md kf kt kw p0 p1 = some (a, tn', mt', mu', kinds', up', lo', q', ba', le', tb', ro', li', sz', tr', ln', mk', tc', md', kf', kt', kw') ∧ INVx held p_ box (va_up F k ((F k).1, (F k).2.1, (F k).2.2.1, (F k).2.2.2.1, (F k).2.2.2.2.1, size', many', by_', tu', mem', path')) forms prime num hc p QF := by
  have hI := h
  have same : INVx held p_ box (va_up F k (F k)) forms prime num hc p QF := by rw [va_up_id]; exact hI
  obtain ⟨h1, h2, h3, h4, h5, h6, h7, h8⟩ := h
  obtain ⟨z, hz, rfl⟩ := z_ex p0
  obtain ⟨y, hy, rfl⟩ := z_ex p1
  subst h3; subst h4; subst h6; subst h7
  have o1 : fX6_isOutside (Int32.ofInt y) 0 1 = some (if 0 ≤ y ∧ y ≤ 1 then 0 else 1) := x6_outL hy (a := 0) (b := 1) (by first | rfl | decide) (by first | rfl | decide) ⟨by omega, by omega⟩ ⟨by omega, by omega⟩
  have o2 : fX7_in (Int32.ofInt y).toInt64 0 1 = some (if 0 ≤ y ∧ y ≤ 1 then 1 else 0) := x7_inL hy (a := 0) (b := 1) (by first | rfl | decide) (by first | rfl | decide) ⟨by omega, by omega⟩ ⟨by omega, by omega⟩
  unfold fX6_weight fX7_weight
  rw [x6_unk h1 hz, x7_isForm h1 hz, bd1_s, bd1_s]
  by_cases g : 0 ≤ z ∧ z < hc
  ·
    obtain ⟨ek, hkc⟩ := kn g h1 hk
    obtain ⟨hf, hn⟩ := h8 k hkc
    obtain ⟨ans, size_a, many_a, by__a, tu_a, fo_a, lp_a, lt_a, lu_a, six_a, all_a, w_a, b_a, c_a, ti_a, s_a, r_a, wo_a, im_a, be_a, br_a, mem_a, path_a, tn_b, mt_b, mu_b, kinds_b, q_b, ba_b, le_b, tb_b, ro_b, li_b, sz_b, tr_b, ln_b, mk_b, tc_b, md_b, kf_b, kt_b, kw_b, e1, e2, hF, hK⟩ := kin2 hf (show k < 12 by omega) hn h2 h5 fo lp lt lu six all w b c ti s r wo im be br tn mt mu kinds q ba le tb ro li sz tr ln mk tc md kf kt kw hfu
    rw [if_pos g, if_pos z00, if_pos g, if_neg n10, o1, o2, bd1_s, bd1_s]
    by_cases gy : 0 ≤ y ∧ y ≤ 1
    · rw [if_pos gy, if_pos z00, if_pos gy, if_neg n10, ek, e1, bd23_s, e2, bd20_s]
      rcases hK with ⟨K, k1, k2, k3, k4⟩ | hK
      · have ea := x0_all k1 (fun i x hx => (k3.2.2.1 i x hx).2) (F := fu) (by omega)
        have eb := l7_weigh k1 (fun i x hx => (k4.2.1 i x hx).2) hfu
        have hS : psum (fun x => 48 / x.2) K.1 ≤ 48 * K.1.length := psum_le _ 48 _ (fun x hx => Nat.div_le_self _ _)
        have hl := k1.2.1
        have e48 : (48 : Int64) = zn 48 := rfl
        have ec := x6_terms (a := psum (fun x => 48 / x.2) K.1) (b := 48) (by omega) (by decide) (by decide) (Int32.ofInt y) (F := fu) (by omega)
        obtain ⟨d1, d2, d3, d4⟩ := k3
        obtain ⟨v1, v2, v3⟩ := k4
        subst k2; subst v1; subst d1
        rw [if_pos (ix_nn (by omega)), if_pos (ix_nn (by omega)), if_pos (ix_ok (by omega) (by decide)), ea, bd1_s, e48, ec, bd1_s, eb, bd2_s]
        dsimp only [nm_eq]
        by_cases gz : Int32.ofInt y = 0
        · rw [if_pos gz, if_pos gz]
          exact ⟨_, _, many_a, by__a, tu_a, fo_a, lp_a, lt_a, lu_a, six_a, all_a, w_a, b_a, c_a, ti_a, s_a, r_a, wo_a, im_a, be_a, br_a, mem_a, path_a, _, _, _, _, _, _, _, _, _, _, _, _, _, _, _, _, _, _, _, _, _, rfl, rfl, hI.put (fun _ => hF)⟩
        · rw [if_neg gz, if_neg gz]
          exact ⟨_, _, many_a, by__a, tu_a, fo_a, lp_a, lt_a, lu_a, six_a, all_a, w_a, b_a, c_a, ti_a, s_a, r_a, wo_a, im_a, be_a, br_a, mem_a, path_a, _, _, _, _, _, _, _, _, _, _, _, _, _, _, _, _, _, _, _, _, _, rfl, rfl, hI.put (fun _ => hF)⟩
      · rw [if_neg hK, if_neg hK]
        exact ⟨_, _, many_a, by__a, tu_a, fo_a, lp_a, lt_a, lu_a, six_a, all_a, w_a, b_a, c_a, ti_a, s_a, r_a, wo_a, im_a, be_a, br_a, mem_a, path_a, _, _, _, _, _, _, _, _, _, _, _, _, _, _, _, _, _, _, _, _, _, rfl, rfl, hI.put (fun _ => hF)⟩
    · rw [if_neg gy, if_neg n10, if_neg gy, if_pos z00]
      exact ⟨_, _, _, _, _, _, _, _, _, _, _, _, _, _, _, _, _, _, _, _, _, _, _, _, _, _, _, _, _, _, _, _, _, _, _, _, _, _, _, _, _, _, _, _, rfl, rfl, same⟩
  · rw [if_neg g, if_neg n10, if_neg g, if_pos z00]
    exact ⟨_, _, _, _, _, _, _, _, _, _, _, _, _, _, _, _, _, _, _, _, _, _, _, _, _, _, _, _, _, _, _, _, _, _, _, _, _, _, _, _, _, _, _, _, rfl, rfl, same⟩
