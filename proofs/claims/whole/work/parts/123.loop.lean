/-! the class's Reducer: to the end of its loop -/
def sh_ok (q : F6) (E : T9) : Prop := qf_gl E ∧ (qf_trn q E).1 ≤ q.1 ∧ (qf_trn q E).2.1 ≤ q.2.1 ∧ (qf_trn q E).2.2.1 ≤ q.2.2.1 ∧ qf_sum (qf_trn q E) < qf_sum q
theorem sh_el01 {q : F6} {t : Int} (h : t * (q.2.2.2.2.2 + t * q.2.1) < 0) : sh_ok q ((1, t, 0), (0, 1, 0), (0, 0, 1)) := by
  obtain ⟨a, b, c, d, e, f⟩ := q
  refine ⟨Or.inl (by simp [qf_det]), ?_, ?_, ?_, ?_⟩ <;> simp only [qf_trn, qf_sum, qf_val] at * <;> grind
theorem sh_el02 {q : F6} {t : Int} (h : t * (q.2.2.2.2.1 + t * q.2.2.1) < 0) : sh_ok q ((1, 0, t), (0, 1, 0), (0, 0, 1)) := by
  obtain ⟨a, b, c, d, e, f⟩ := q
  refine ⟨Or.inl (by simp [qf_det]), ?_, ?_, ?_, ?_⟩ <;> simp only [qf_trn, qf_sum, qf_val] at * <;> grind
theorem sh_el10 {q : F6} {t : Int} (h : t * (q.2.2.2.2.2 + t * q.1) < 0) : sh_ok q ((1, 0, 0), (t, 1, 0), (0, 0, 1)) := by
  obtain ⟨a, b, c, d, e, f⟩ := q
  refine ⟨Or.inl (by simp [qf_det]), ?_, ?_, ?_, ?_⟩ <;> simp only [qf_trn, qf_sum, qf_val] at * <;> grind
theorem sh_el12 {q : F6} {t : Int} (h : t * (q.2.2.2.1 + t * q.2.2.1) < 0) : sh_ok q ((1, 0, 0), (0, 1, t), (0, 0, 1)) := by
  obtain ⟨a, b, c, d, e, f⟩ := q
  refine ⟨Or.inl (by simp [qf_det]), ?_, ?_, ?_, ?_⟩ <;> simp only [qf_trn, qf_sum, qf_val] at * <;> grind
theorem sh_el20 {q : F6} {t : Int} (h : t * (q.2.2.2.2.1 + t * q.1) < 0) : sh_ok q ((1, 0, 0), (0, 1, 0), (t, 0, 1)) := by
  obtain ⟨a, b, c, d, e, f⟩ := q
  refine ⟨Or.inl (by simp [qf_det]), ?_, ?_, ?_, ?_⟩ <;> simp only [qf_trn, qf_sum, qf_val] at * <;> grind
theorem sh_el21 {q : F6} {t : Int} (h : t * (q.2.2.2.1 + t * q.2.1) < 0) : sh_ok q ((1, 0, 0), (0, 1, 0), (0, t, 1)) := by
  obtain ⟨a, b, c, d, e, f⟩ := q
  refine ⟨Or.inl (by simp [qf_det]), ?_, ?_, ?_, ?_⟩ <;> simp only [qf_trn, qf_sum, qf_val] at * <;> grind
theorem s3_oneOut {s r : Nat → Int32} {q : F6} {M : T9} (hs : a6 s q) (hr : a9 r M) (hb : qb q) (n : Nat) : (fX3_shortenByOne (n + 4) s r = some (0, s, r) ∧ 0 ≤ gg_ q.2.1 q.2.2.2.2.2 ∧ 0 ≤ gg_ q.2.2.1 q.2.2.2.2.1 ∧ 0 ≤ gg_ q.1 q.2.2.2.2.2 ∧ 0 ≤ gg_ q.2.2.1 q.2.2.2.1 ∧ 0 ≤ gg_ q.1 q.2.2.2.2.1 ∧ 0 ≤ gg_ q.2.1 q.2.2.2.1) ∨ ∃ s' r' E, fX3_shortenByOne (n + 4) s r = some (1, s', r') ∧ a6 s' (qf_trn q E) ∧ a9 r' (qf_mul E M) ∧ sh_ok q E := by
  rw [s3_byOne hs hb]
  by_cases g0 : 0 ≤ gg_ q.2.1 q.2.2.2.2.2
  · rw [if_pos g0]
    by_cases g1 : 0 ≤ gg_ q.2.2.1 q.2.2.2.2.1
    · rw [if_pos g1]
      by_cases g2 : 0 ≤ gg_ q.1 q.2.2.2.2.2
      · rw [if_pos g2]
        by_cases g3 : 0 ≤ gg_ q.2.2.1 q.2.2.2.1
        · rw [if_pos g3]
          by_cases g4 : 0 ≤ gg_ q.1 q.2.2.2.2.1
          · rw [if_pos g4]
            by_cases g5 : 0 ≤ gg_ q.2.1 q.2.2.2.1
            · rw [if_pos g5]
              exact Or.inl ⟨rfl, g0, g1, g2, g3, g4, g5⟩
            · rw [if_neg g5]
              obtain ⟨s', r', h1, h2, h3⟩ := s3_shift21 hs hr (gt_ q.2.1 q.2.2.2.1) n
              refine Or.inr ⟨s', r', _, ?_, h2, h3, sh_el21 (by unfold gg_ at g5; omega)⟩
              unfold fX3_one9
              rw [h1]
              rfl
          · rw [if_neg g4]
            obtain ⟨s', r', h1, h2, h3⟩ := s3_shift20 hs hr (gt_ q.1 q.2.2.2.2.1) n
            refine Or.inr ⟨s', r', _, ?_, h2, h3, sh_el20 (by unfold gg_ at g4; omega)⟩
            unfold fX3_one9
            rw [h1]
            rfl
        · rw [if_neg g3]
          obtain ⟨s', r', h1, h2, h3⟩ := s3_shift12 hs hr (gt_ q.2.2.1 q.2.2.2.1) n
          refine Or.inr ⟨s', r', _, ?_, h2, h3, sh_el12 (by unfold gg_ at g3; omega)⟩
          unfold fX3_one9
          rw [h1]
          rfl
      · rw [if_neg g2]
        obtain ⟨s', r', h1, h2, h3⟩ := s3_shift10 hs hr (gt_ q.1 q.2.2.2.2.2) n
        refine Or.inr ⟨s', r', _, ?_, h2, h3, sh_el10 (by unfold gg_ at g2; omega)⟩
        unfold fX3_one9
        rw [h1]
        rfl
    · rw [if_neg g1]
      obtain ⟨s', r', h1, h2, h3⟩ := s3_shift02 hs hr (gt_ q.2.2.1 q.2.2.2.2.1) n
      refine Or.inr ⟨s', r', _, ?_, h2, h3, sh_el02 (by unfold gg_ at g1; omega)⟩
      unfold fX3_one9
      rw [h1]
      rfl
  · rw [if_neg g0]
    obtain ⟨s', r', h1, h2, h3⟩ := s3_shift01 hs hr (gt_ q.2.1 q.2.2.2.2.2) n
    refine Or.inr ⟨s', r', _, ?_, h2, h3, sh_el01 (by unfold gg_ at g0; omega)⟩
    unfold fX3_one9
    rw [h1]
    rfl
theorem sh_tw0mm {q : F6} (h : q.2.1 + q.2.2.1 - q.2.2.2.2.2 - q.2.2.2.2.1 + q.2.2.2.1 < 0) : sh_ok q (qf_mul ((1, 0, -1), (0, 1, 0), (0, 0, 1)) ((1, -1, 0), (0, 1, 0), (0, 0, 1))) := by
  have e8 : (qf_mul ((1, 0, -1), (0, 1, 0), (0, 0, 1)) ((1, -1, 0), (0, 1, 0), (0, 0, 1))) = ((1, -1, -1), (0, 1, 0), (0, 0, 1)) := by decide
  rw [e8]
  obtain ⟨a, b, c, d, e, f⟩ := q
  refine ⟨Or.inl (by decide), ?_, ?_, ?_, ?_⟩ <;> simp only [qf_trn, qf_sum, qf_val] at * <;> omega
theorem sh_tw0mp {q : F6} (h : q.2.1 + q.2.2.1 - q.2.2.2.2.2 + q.2.2.2.2.1 - q.2.2.2.1 < 0) : sh_ok q (qf_mul ((1, 0, 1), (0, 1, 0), (0, 0, 1)) ((1, -1, 0), (0, 1, 0), (0, 0, 1))) := by
  have e8 : (qf_mul ((1, 0, 1), (0, 1, 0), (0, 0, 1)) ((1, -1, 0), (0, 1, 0), (0, 0, 1))) = ((1, -1, 1), (0, 1, 0), (0, 0, 1)) := by decide
  rw [e8]
  obtain ⟨a, b, c, d, e, f⟩ := q
  refine ⟨Or.inl (by decide), ?_, ?_, ?_, ?_⟩ <;> simp only [qf_trn, qf_sum, qf_val] at * <;> omega
theorem sh_tw0pm {q : F6} (h : q.2.1 + q.2.2.1 + q.2.2.2.2.2 - q.2.2.2.2.1 - q.2.2.2.1 < 0) : sh_ok q (qf_mul ((1, 0, -1), (0, 1, 0), (0, 0, 1)) ((1, 1, 0), (0, 1, 0), (0, 0, 1))) := by
  have e8 : (qf_mul ((1, 0, -1), (0, 1, 0), (0, 0, 1)) ((1, 1, 0), (0, 1, 0), (0, 0, 1))) = ((1, 1, -1), (0, 1, 0), (0, 0, 1)) := by decide
  rw [e8]
  obtain ⟨a, b, c, d, e, f⟩ := q
  refine ⟨Or.inl (by decide), ?_, ?_, ?_, ?_⟩ <;> simp only [qf_trn, qf_sum, qf_val] at * <;> omega
theorem sh_tw0pp {q : F6} (h : q.2.1 + q.2.2.1 + q.2.2.2.2.2 + q.2.2.2.2.1 + q.2.2.2.1 < 0) : sh_ok q (qf_mul ((1, 0, 1), (0, 1, 0), (0, 0, 1)) ((1, 1, 0), (0, 1, 0), (0, 0, 1))) := by
  have e8 : (qf_mul ((1, 0, 1), (0, 1, 0), (0, 0, 1)) ((1, 1, 0), (0, 1, 0), (0, 0, 1))) = ((1, 1, 1), (0, 1, 0), (0, 0, 1)) := by decide
  rw [e8]
  obtain ⟨a, b, c, d, e, f⟩ := q
  refine ⟨Or.inl (by decide), ?_, ?_, ?_, ?_⟩ <;> simp only [qf_trn, qf_sum, qf_val] at * <;> omega
theorem sh_tw1mm {q : F6} (h : q.2.2.1 + q.1 - q.2.2.2.1 - q.2.2.2.2.2 + q.2.2.2.2.1 < 0) : sh_ok q (qf_mul ((1, 0, 0), (-1, 1, 0), (0, 0, 1)) ((1, 0, 0), (0, 1, -1), (0, 0, 1))) := by
  have e8 : (qf_mul ((1, 0, 0), (-1, 1, 0), (0, 0, 1)) ((1, 0, 0), (0, 1, -1), (0, 0, 1))) = ((1, 0, 0), (-1, 1, -1), (0, 0, 1)) := by decide
  rw [e8]
  obtain ⟨a, b, c, d, e, f⟩ := q
  refine ⟨Or.inl (by decide), ?_, ?_, ?_, ?_⟩ <;> simp only [qf_trn, qf_sum, qf_val] at * <;> omega
theorem sh_tw1mp {q : F6} (h : q.2.2.1 + q.1 - q.2.2.2.1 + q.2.2.2.2.2 - q.2.2.2.2.1 < 0) : sh_ok q (qf_mul ((1, 0, 0), (1, 1, 0), (0, 0, 1)) ((1, 0, 0), (0, 1, -1), (0, 0, 1))) := by
  have e8 : (qf_mul ((1, 0, 0), (1, 1, 0), (0, 0, 1)) ((1, 0, 0), (0, 1, -1), (0, 0, 1))) = ((1, 0, 0), (1, 1, -1), (0, 0, 1)) := by decide
  rw [e8]
  obtain ⟨a, b, c, d, e, f⟩ := q
  refine ⟨Or.inl (by decide), ?_, ?_, ?_, ?_⟩ <;> simp only [qf_trn, qf_sum, qf_val] at * <;> omega
theorem sh_tw1pm {q : F6} (h : q.2.2.1 + q.1 + q.2.2.2.1 - q.2.2.2.2.2 - q.2.2.2.2.1 < 0) : sh_ok q (qf_mul ((1, 0, 0), (-1, 1, 0), (0, 0, 1)) ((1, 0, 0), (0, 1, 1), (0, 0, 1))) := by
  have e8 : (qf_mul ((1, 0, 0), (-1, 1, 0), (0, 0, 1)) ((1, 0, 0), (0, 1, 1), (0, 0, 1))) = ((1, 0, 0), (-1, 1, 1), (0, 0, 1)) := by decide
  rw [e8]
  obtain ⟨a, b, c, d, e, f⟩ := q
  refine ⟨Or.inl (by decide), ?_, ?_, ?_, ?_⟩ <;> simp only [qf_trn, qf_sum, qf_val] at * <;> omega
theorem sh_tw1pp {q : F6} (h : q.2.2.1 + q.1 + q.2.2.2.1 + q.2.2.2.2.2 + q.2.2.2.2.1 < 0) : sh_ok q (qf_mul ((1, 0, 0), (1, 1, 0), (0, 0, 1)) ((1, 0, 0), (0, 1, 1), (0, 0, 1))) := by
  have e8 : (qf_mul ((1, 0, 0), (1, 1, 0), (0, 0, 1)) ((1, 0, 0), (0, 1, 1), (0, 0, 1))) = ((1, 0, 0), (1, 1, 1), (0, 0, 1)) := by decide
  rw [e8]
  obtain ⟨a, b, c, d, e, f⟩ := q
  refine ⟨Or.inl (by decide), ?_, ?_, ?_, ?_⟩ <;> simp only [qf_trn, qf_sum, qf_val] at * <;> omega
theorem sh_tw2mm {q : F6} (h : q.1 + q.2.1 - q.2.2.2.2.1 - q.2.2.2.1 + q.2.2.2.2.2 < 0) : sh_ok q (qf_mul ((1, 0, 0), (0, 1, 0), (0, -1, 1)) ((1, 0, 0), (0, 1, 0), (-1, 0, 1))) := by
  have e8 : (qf_mul ((1, 0, 0), (0, 1, 0), (0, -1, 1)) ((1, 0, 0), (0, 1, 0), (-1, 0, 1))) = ((1, 0, 0), (0, 1, 0), (-1, -1, 1)) := by decide
  rw [e8]
  obtain ⟨a, b, c, d, e, f⟩ := q
  refine ⟨Or.inl (by decide), ?_, ?_, ?_, ?_⟩ <;> simp only [qf_trn, qf_sum, qf_val] at * <;> omega
theorem sh_tw2mp {q : F6} (h : q.1 + q.2.1 - q.2.2.2.2.1 + q.2.2.2.1 - q.2.2.2.2.2 < 0) : sh_ok q (qf_mul ((1, 0, 0), (0, 1, 0), (0, 1, 1)) ((1, 0, 0), (0, 1, 0), (-1, 0, 1))) := by
  have e8 : (qf_mul ((1, 0, 0), (0, 1, 0), (0, 1, 1)) ((1, 0, 0), (0, 1, 0), (-1, 0, 1))) = ((1, 0, 0), (0, 1, 0), (-1, 1, 1)) := by decide
  rw [e8]
  obtain ⟨a, b, c, d, e, f⟩ := q
  refine ⟨Or.inl (by decide), ?_, ?_, ?_, ?_⟩ <;> simp only [qf_trn, qf_sum, qf_val] at * <;> omega
theorem sh_tw2pm {q : F6} (h : q.1 + q.2.1 + q.2.2.2.2.1 - q.2.2.2.1 - q.2.2.2.2.2 < 0) : sh_ok q (qf_mul ((1, 0, 0), (0, 1, 0), (0, -1, 1)) ((1, 0, 0), (0, 1, 0), (1, 0, 1))) := by
  have e8 : (qf_mul ((1, 0, 0), (0, 1, 0), (0, -1, 1)) ((1, 0, 0), (0, 1, 0), (1, 0, 1))) = ((1, 0, 0), (0, 1, 0), (1, -1, 1)) := by decide
  rw [e8]
  obtain ⟨a, b, c, d, e, f⟩ := q
  refine ⟨Or.inl (by decide), ?_, ?_, ?_, ?_⟩ <;> simp only [qf_trn, qf_sum, qf_val] at * <;> omega
theorem sh_tw2pp {q : F6} (h : q.1 + q.2.1 + q.2.2.2.2.1 + q.2.2.2.1 + q.2.2.2.2.2 < 0) : sh_ok q (qf_mul ((1, 0, 0), (0, 1, 0), (0, 1, 1)) ((1, 0, 0), (0, 1, 0), (1, 0, 1))) := by
  have e8 : (qf_mul ((1, 0, 0), (0, 1, 0), (0, 1, 1)) ((1, 0, 0), (0, 1, 0), (1, 0, 1))) = ((1, 0, 0), (0, 1, 0), (1, 1, 1)) := by decide
  rw [e8]
  obtain ⟨a, b, c, d, e, f⟩ := q
  refine ⟨Or.inl (by decide), ?_, ?_, ?_, ?_⟩ <;> simp only [qf_trn, qf_sum, qf_val] at * <;> omega
theorem s3_twoOut {s r : Nat → Int32} {q : F6} {M : T9} (hs : a6 s q) (hr : a9 r M) (hb : qb q) (n : Nat) : (fX3_shortenByTwo (n + 4) s r = some (0, s, r) ∧ 0 ≤ q.2.1 + q.2.2.1 - q.2.2.2.2.2 - q.2.2.2.2.1 + q.2.2.2.1 ∧ 0 ≤ q.2.1 + q.2.2.1 - q.2.2.2.2.2 + q.2.2.2.2.1 - q.2.2.2.1 ∧ 0 ≤ q.2.1 + q.2.2.1 + q.2.2.2.2.2 - q.2.2.2.2.1 - q.2.2.2.1 ∧ 0 ≤ q.2.1 + q.2.2.1 + q.2.2.2.2.2 + q.2.2.2.2.1 + q.2.2.2.1 ∧ 0 ≤ q.2.2.1 + q.1 - q.2.2.2.1 - q.2.2.2.2.2 + q.2.2.2.2.1 ∧ 0 ≤ q.2.2.1 + q.1 - q.2.2.2.1 + q.2.2.2.2.2 - q.2.2.2.2.1 ∧ 0 ≤ q.2.2.1 + q.1 + q.2.2.2.1 - q.2.2.2.2.2 - q.2.2.2.2.1 ∧ 0 ≤ q.2.2.1 + q.1 + q.2.2.2.1 + q.2.2.2.2.2 + q.2.2.2.2.1 ∧ 0 ≤ q.1 + q.2.1 - q.2.2.2.2.1 - q.2.2.2.1 + q.2.2.2.2.2 ∧ 0 ≤ q.1 + q.2.1 - q.2.2.2.2.1 + q.2.2.2.1 - q.2.2.2.2.2 ∧ 0 ≤ q.1 + q.2.1 + q.2.2.2.2.1 - q.2.2.2.1 - q.2.2.2.2.2 ∧ 0 ≤ q.1 + q.2.1 + q.2.2.2.2.1 + q.2.2.2.1 + q.2.2.2.2.2) ∨ ∃ s' r' E, fX3_shortenByTwo (n + 4) s r = some (1, s', r') ∧ a6 s' (qf_trn q E) ∧ a9 r' (qf_mul E M) ∧ sh_ok q E := by
  rw [s3_byTwo hs hb]
  by_cases g0 : 0 ≤ q.2.1 + q.2.2.1 - q.2.2.2.2.2 - q.2.2.2.2.1 + q.2.2.2.1
  · rw [if_pos g0]
    by_cases g1 : 0 ≤ q.2.1 + q.2.2.1 - q.2.2.2.2.2 + q.2.2.2.2.1 - q.2.2.2.1
    · rw [if_pos g1]
      by_cases g2 : 0 ≤ q.2.1 + q.2.2.1 + q.2.2.2.2.2 - q.2.2.2.2.1 - q.2.2.2.1
      · rw [if_pos g2]
        by_cases g3 : 0 ≤ q.2.1 + q.2.2.1 + q.2.2.2.2.2 + q.2.2.2.2.1 + q.2.2.2.1
        · rw [if_pos g3]
          by_cases g4 : 0 ≤ q.2.2.1 + q.1 - q.2.2.2.1 - q.2.2.2.2.2 + q.2.2.2.2.1
          · rw [if_pos g4]
            by_cases g5 : 0 ≤ q.2.2.1 + q.1 - q.2.2.2.1 + q.2.2.2.2.2 - q.2.2.2.2.1
            · rw [if_pos g5]
              by_cases g6 : 0 ≤ q.2.2.1 + q.1 + q.2.2.2.1 - q.2.2.2.2.2 - q.2.2.2.2.1
              · rw [if_pos g6]
                by_cases g7 : 0 ≤ q.2.2.1 + q.1 + q.2.2.2.1 + q.2.2.2.2.2 + q.2.2.2.2.1
                · rw [if_pos g7]
                  by_cases g8 : 0 ≤ q.1 + q.2.1 - q.2.2.2.2.1 - q.2.2.2.1 + q.2.2.2.2.2
                  · rw [if_pos g8]
                    by_cases g9 : 0 ≤ q.1 + q.2.1 - q.2.2.2.2.1 + q.2.2.2.1 - q.2.2.2.2.2
                    · rw [if_pos g9]
                      by_cases g10 : 0 ≤ q.1 + q.2.1 + q.2.2.2.2.1 - q.2.2.2.1 - q.2.2.2.2.2
                      · rw [if_pos g10]
                        by_cases g11 : 0 ≤ q.1 + q.2.1 + q.2.2.2.2.1 + q.2.2.2.1 + q.2.2.2.2.2
                        · rw [if_pos g11]
                          exact Or.inl ⟨rfl, g0, g1, g2, g3, g4, g5, g6, g7, g8, g9, g10, g11⟩
                        · rw [if_neg g11]
                          obtain ⟨s', r', h1, h2, h3⟩ := s3_shift20 hs hr (1) n
                          obtain ⟨s2, r2, h4, h5, h6⟩ := s3_shift21 h2 h3 (1) n
                          rw [qf_trn_trn] at h5
                          rw [← qf_mul_assoc] at h6
                          refine Or.inr ⟨s2, r2, _, ?_, h5, h6, sh_tw2pp (by omega)⟩
                          show bd2 (fX3_shift (n + 4) s r 2 0 (Int32.ofInt (1))) (fun s' r' => bd2 (fX3_shift (n + 4) s' r' 2 1 (Int32.ofInt (1))) (fun s2 r2 => some ((1 : Int32), s2, r2))) = _
                          rw [h1]
                          show bd2 (fX3_shift (n + 4) s' r' 2 1 (Int32.ofInt (1))) (fun s2 r2 => some ((1 : Int32), s2, r2)) = _
                          rw [h4]
                          rfl
                      · rw [if_neg g10]
                        obtain ⟨s', r', h1, h2, h3⟩ := s3_shift20 hs hr (1) n
                        obtain ⟨s2, r2, h4, h5, h6⟩ := s3_shift21 h2 h3 (-1) n
                        rw [qf_trn_trn] at h5
                        rw [← qf_mul_assoc] at h6
                        refine Or.inr ⟨s2, r2, _, ?_, h5, h6, sh_tw2pm (by omega)⟩
                        show bd2 (fX3_shift (n + 4) s r 2 0 (Int32.ofInt (1))) (fun s' r' => bd2 (fX3_shift (n + 4) s' r' 2 1 (Int32.ofInt (-1))) (fun s2 r2 => some ((1 : Int32), s2, r2))) = _
                        rw [h1]
                        show bd2 (fX3_shift (n + 4) s' r' 2 1 (Int32.ofInt (-1))) (fun s2 r2 => some ((1 : Int32), s2, r2)) = _
                        rw [h4]
                        rfl
                    · rw [if_neg g9]
                      obtain ⟨s', r', h1, h2, h3⟩ := s3_shift20 hs hr (-1) n
                      obtain ⟨s2, r2, h4, h5, h6⟩ := s3_shift21 h2 h3 (1) n
                      rw [qf_trn_trn] at h5
                      rw [← qf_mul_assoc] at h6
                      refine Or.inr ⟨s2, r2, _, ?_, h5, h6, sh_tw2mp (by omega)⟩
                      show bd2 (fX3_shift (n + 4) s r 2 0 (Int32.ofInt (-1))) (fun s' r' => bd2 (fX3_shift (n + 4) s' r' 2 1 (Int32.ofInt (1))) (fun s2 r2 => some ((1 : Int32), s2, r2))) = _
                      rw [h1]
                      show bd2 (fX3_shift (n + 4) s' r' 2 1 (Int32.ofInt (1))) (fun s2 r2 => some ((1 : Int32), s2, r2)) = _
                      rw [h4]
                      rfl
                  · rw [if_neg g8]
                    obtain ⟨s', r', h1, h2, h3⟩ := s3_shift20 hs hr (-1) n
                    obtain ⟨s2, r2, h4, h5, h6⟩ := s3_shift21 h2 h3 (-1) n
                    rw [qf_trn_trn] at h5
                    rw [← qf_mul_assoc] at h6
                    refine Or.inr ⟨s2, r2, _, ?_, h5, h6, sh_tw2mm (by omega)⟩
                    show bd2 (fX3_shift (n + 4) s r 2 0 (Int32.ofInt (-1))) (fun s' r' => bd2 (fX3_shift (n + 4) s' r' 2 1 (Int32.ofInt (-1))) (fun s2 r2 => some ((1 : Int32), s2, r2))) = _
                    rw [h1]
                    show bd2 (fX3_shift (n + 4) s' r' 2 1 (Int32.ofInt (-1))) (fun s2 r2 => some ((1 : Int32), s2, r2)) = _
                    rw [h4]
                    rfl
                · rw [if_neg g7]
                  obtain ⟨s', r', h1, h2, h3⟩ := s3_shift12 hs hr (1) n
                  obtain ⟨s2, r2, h4, h5, h6⟩ := s3_shift10 h2 h3 (1) n
                  rw [qf_trn_trn] at h5
                  rw [← qf_mul_assoc] at h6
                  refine Or.inr ⟨s2, r2, _, ?_, h5, h6, sh_tw1pp (by omega)⟩
                  show bd2 (fX3_shift (n + 4) s r 1 2 (Int32.ofInt (1))) (fun s' r' => bd2 (fX3_shift (n + 4) s' r' 1 0 (Int32.ofInt (1))) (fun s2 r2 => some ((1 : Int32), s2, r2))) = _
                  rw [h1]
                  show bd2 (fX3_shift (n + 4) s' r' 1 0 (Int32.ofInt (1))) (fun s2 r2 => some ((1 : Int32), s2, r2)) = _
                  rw [h4]
                  rfl
              · rw [if_neg g6]
                obtain ⟨s', r', h1, h2, h3⟩ := s3_shift12 hs hr (1) n
                obtain ⟨s2, r2, h4, h5, h6⟩ := s3_shift10 h2 h3 (-1) n
                rw [qf_trn_trn] at h5
                rw [← qf_mul_assoc] at h6
                refine Or.inr ⟨s2, r2, _, ?_, h5, h6, sh_tw1pm (by omega)⟩
                show bd2 (fX3_shift (n + 4) s r 1 2 (Int32.ofInt (1))) (fun s' r' => bd2 (fX3_shift (n + 4) s' r' 1 0 (Int32.ofInt (-1))) (fun s2 r2 => some ((1 : Int32), s2, r2))) = _
                rw [h1]
                show bd2 (fX3_shift (n + 4) s' r' 1 0 (Int32.ofInt (-1))) (fun s2 r2 => some ((1 : Int32), s2, r2)) = _
                rw [h4]
                rfl
            · rw [if_neg g5]
              obtain ⟨s', r', h1, h2, h3⟩ := s3_shift12 hs hr (-1) n
              obtain ⟨s2, r2, h4, h5, h6⟩ := s3_shift10 h2 h3 (1) n
              rw [qf_trn_trn] at h5
              rw [← qf_mul_assoc] at h6
              refine Or.inr ⟨s2, r2, _, ?_, h5, h6, sh_tw1mp (by omega)⟩
              show bd2 (fX3_shift (n + 4) s r 1 2 (Int32.ofInt (-1))) (fun s' r' => bd2 (fX3_shift (n + 4) s' r' 1 0 (Int32.ofInt (1))) (fun s2 r2 => some ((1 : Int32), s2, r2))) = _
              rw [h1]
              show bd2 (fX3_shift (n + 4) s' r' 1 0 (Int32.ofInt (1))) (fun s2 r2 => some ((1 : Int32), s2, r2)) = _
              rw [h4]
              rfl
          · rw [if_neg g4]
            obtain ⟨s', r', h1, h2, h3⟩ := s3_shift12 hs hr (-1) n
            obtain ⟨s2, r2, h4, h5, h6⟩ := s3_shift10 h2 h3 (-1) n
            rw [qf_trn_trn] at h5
            rw [← qf_mul_assoc] at h6
            refine Or.inr ⟨s2, r2, _, ?_, h5, h6, sh_tw1mm (by omega)⟩
            show bd2 (fX3_shift (n + 4) s r 1 2 (Int32.ofInt (-1))) (fun s' r' => bd2 (fX3_shift (n + 4) s' r' 1 0 (Int32.ofInt (-1))) (fun s2 r2 => some ((1 : Int32), s2, r2))) = _
            rw [h1]
            show bd2 (fX3_shift (n + 4) s' r' 1 0 (Int32.ofInt (-1))) (fun s2 r2 => some ((1 : Int32), s2, r2)) = _
            rw [h4]
            rfl
        · rw [if_neg g3]
          obtain ⟨s', r', h1, h2, h3⟩ := s3_shift01 hs hr (1) n
          obtain ⟨s2, r2, h4, h5, h6⟩ := s3_shift02 h2 h3 (1) n
          rw [qf_trn_trn] at h5
          rw [← qf_mul_assoc] at h6
          refine Or.inr ⟨s2, r2, _, ?_, h5, h6, sh_tw0pp (by omega)⟩
          show bd2 (fX3_shift (n + 4) s r 0 1 (Int32.ofInt (1))) (fun s' r' => bd2 (fX3_shift (n + 4) s' r' 0 2 (Int32.ofInt (1))) (fun s2 r2 => some ((1 : Int32), s2, r2))) = _
          rw [h1]
          show bd2 (fX3_shift (n + 4) s' r' 0 2 (Int32.ofInt (1))) (fun s2 r2 => some ((1 : Int32), s2, r2)) = _
          rw [h4]
          rfl
      · rw [if_neg g2]
        obtain ⟨s', r', h1, h2, h3⟩ := s3_shift01 hs hr (1) n
        obtain ⟨s2, r2, h4, h5, h6⟩ := s3_shift02 h2 h3 (-1) n
        rw [qf_trn_trn] at h5
        rw [← qf_mul_assoc] at h6
        refine Or.inr ⟨s2, r2, _, ?_, h5, h6, sh_tw0pm (by omega)⟩
        show bd2 (fX3_shift (n + 4) s r 0 1 (Int32.ofInt (1))) (fun s' r' => bd2 (fX3_shift (n + 4) s' r' 0 2 (Int32.ofInt (-1))) (fun s2 r2 => some ((1 : Int32), s2, r2))) = _
        rw [h1]
        show bd2 (fX3_shift (n + 4) s' r' 0 2 (Int32.ofInt (-1))) (fun s2 r2 => some ((1 : Int32), s2, r2)) = _
        rw [h4]
        rfl
    · rw [if_neg g1]
      obtain ⟨s', r', h1, h2, h3⟩ := s3_shift01 hs hr (-1) n
      obtain ⟨s2, r2, h4, h5, h6⟩ := s3_shift02 h2 h3 (1) n
      rw [qf_trn_trn] at h5
      rw [← qf_mul_assoc] at h6
      refine Or.inr ⟨s2, r2, _, ?_, h5, h6, sh_tw0mp (by omega)⟩
      show bd2 (fX3_shift (n + 4) s r 0 1 (Int32.ofInt (-1))) (fun s' r' => bd2 (fX3_shift (n + 4) s' r' 0 2 (Int32.ofInt (1))) (fun s2 r2 => some ((1 : Int32), s2, r2))) = _
      rw [h1]
      show bd2 (fX3_shift (n + 4) s' r' 0 2 (Int32.ofInt (1))) (fun s2 r2 => some ((1 : Int32), s2, r2)) = _
      rw [h4]
      rfl
  · rw [if_neg g0]
    obtain ⟨s', r', h1, h2, h3⟩ := s3_shift01 hs hr (-1) n
    obtain ⟨s2, r2, h4, h5, h6⟩ := s3_shift02 h2 h3 (-1) n
    rw [qf_trn_trn] at h5
    rw [← qf_mul_assoc] at h6
    refine Or.inr ⟨s2, r2, _, ?_, h5, h6, sh_tw0mm (by omega)⟩
    show bd2 (fX3_shift (n + 4) s r 0 1 (Int32.ofInt (-1))) (fun s' r' => bd2 (fX3_shift (n + 4) s' r' 0 2 (Int32.ofInt (-1))) (fun s2 r2 => some ((1 : Int32), s2, r2))) = _
    rw [h1]
    show bd2 (fX3_shift (n + 4) s' r' 0 2 (Int32.ofInt (-1))) (fun s2 r2 => some ((1 : Int32), s2, r2)) = _
    rw [h4]
    rfl
theorem qb_of {q : F6} (hp : qf_pd q) (h1 : q.1 ≤ 400000) (h2 : q.2.1 ≤ 400000) (h3 : q.2.2.1 ≤ 400000) : qb q := by
  have p1 := qf_pdv_of hp (1, 0, 0) (by decide)
  have p2 := qf_pdv_of hp (0, 1, 0) (by decide)
  have p3 := qf_pdv_of hp (0, 0, 1) (by decide)
  obtain ⟨a, b, c, d, e, f⟩ := q
  have k1 := (qf_pd_xz hp).2.1
  have k2 := (qf_pd_yz hp).2.1
  have k3 := hp.2.1
  simp only [qb, qf_val] at *
  have e1 : 4 * c * b = 4 * b * c := by grind
  refine ⟨by omega, by omega, by omega, by omega, by omega, by omega⟩
/-- what the loop leaves -/
def s3_end (q : F6) (E : T9) : Prop := qf_gl E ∧ (qf_trn q E).1 ≤ q.1 ∧ (qf_trn q E).2.1 ≤ q.2.1 ∧ (qf_trn q E).2.2.1 ≤ q.2.2.1 ∧ qr_R (qf_trn q E)
theorem s3_loop {k83 : (Nat → Int32) → (Nat → Int32) → Option (Int32 × (Nat → Int32) × (Nat → Int32) × (Nat → Int32) × (Nat → Int32) × (Nat → Int32) × (Nat → Int32))} (fu : Nat) : ∀ (m : Nat) (q : F6) (M : T9) (s r : Nat → Int32) (n : Nat) (x : Int), qf_pd q → qb q → a6 s q → a9 r M → qf_sum q ≤ m → m + 2 ≤ n → 0 ≤ x → x + m < 1000000 → ∃ s' r' E, s3_end q E ∧ a6 s' (qf_trn q E) ∧ a9 r' (qf_mul E M) ∧ fX3_settle_L47 k83 (fu + 4) n 1 (Int32.ofInt x) s r = k83 s' r' := by
  intro m
  induction m with
  | zero =>
    intro q M s r n x hp hb hs hr hm
    exfalso
    have := hb.1; have := hb.2.1; have := hb.2.2.1
    unfold qf_sum at hm
    omega
  | succ m ih =>
    intro q M s r n x hp hb hs hr hm hn hx hxm
    obtain ⟨n, rfl⟩ : ∃ k, n = k + 1 := ⟨n - 1, by omega⟩
    have el : (1000000 : Int32) = Int32.ofInt 1000000 := rfl
    have e1 : (1 : Int32) = Int32.ofInt 1 := rfl
    have hx0 : ¬ (1000000 : Int32) ≤ Int32.ofInt x := by rw [el, zi_le ⟨by omega, by omega⟩ ⟨by omega, by omega⟩]; omega
    have go : ∀ (s' r' : Nat → Int32) (E : T9), a6 s' (qf_trn q E) → a9 r' (qf_mul E M) → sh_ok q E → ∃ s2 r2 E2, s3_end q E2 ∧ a6 s2 (qf_trn q E2) ∧ a9 r2 (qf_mul E2 M) ∧ fX3_settle_L47 k83 (fu + 4) n 1 (Int32.ofInt x + 1) s' r' = k83 s2 r2 := by
      intro s' r' E h1 h2 h3
      obtain ⟨o1, o2, o3, o4, o5⟩ := h3
      have hp' := qf_pd_trn hp o1
      obtain ⟨s2, r2, E2, g1, g2, g3, g4⟩ := ih (qf_trn q E) (qf_mul E M) s' r' n (x + 1) hp' (qb_of hp' (by have := hb.1; omega) (by have := hb.2.1; omega) (by have := hb.2.2.1; omega)) h1 h2 (by omega) (by omega) (by omega) (by omega)
      obtain ⟨f1, f2, f3, f4, f5⟩ := g1
      rw [qf_trn_trn] at f2 f3 f4 f5 g2
      rw [← qf_mul_assoc] at g3
      refine ⟨s2, r2, qf_mul E2 E, ⟨qf_gl_mul f1 o1, by omega, by omega, by omega, f5⟩, g2, g3, ?_⟩
      rw [e1, ← Int32.ofInt_add]
      exact g4
    rw [fX3_settle_L47, if_neg (by decide), if_neg hx0]
    rcases s3_oneOut hs hr hb fu with ⟨h1, p⟩ | ⟨s', r', E, h1, h2, h3, h4⟩
    · rw [h1]
      simp only [bd3, nm_eq, ↓reduceIte]
      rcases s3_twoOut hs hr hb fu with ⟨h5, t⟩ | ⟨s', r', E, h5, h2, h3, h4⟩
      · rw [h5]
        simp only [↓reduceIte]
        obtain ⟨n, rfl⟩ : ∃ k, n = k + 1 := ⟨n - 1, by omega⟩
        refine ⟨s, r, qf_one, ⟨qf_gl_one, ?_⟩, ?_, ?_, ?_⟩
        · rw [qf_trn_one]
          refine ⟨Int.le_refl _, Int.le_refl _, Int.le_refl _, ?_⟩
          obtain ⟨p1, p2, p3, p4, p5, p6⟩ := p
          obtain ⟨t1, t2, t3, t4, t5, t6, t7, t8, t9, t10, t11, t12⟩ := t
          have b1 := hb.1; have b2 := hb.2.1; have b3 := hb.2.2.1
          have p1 := gg_nn b2.1 p1
          have p2 := gg_nn b3.1 p2
          have p3 := gg_nn b1.1 p3
          have p4 := gg_nn b3.1 p4
          have p5 := gg_nn b1.1 p5
          have p6 := gg_nn b2.1 p6
          refine ⟨by omega, by omega, by omega, by omega, fun u hu => ?_⟩
          rcases hu with hu | hu | hu <;> subst hu <;> omega
        · rw [qf_trn_one]; exact hs
        · rw [qf_one_mul]; exact hr
        · rw [fX3_settle_L47, if_pos rfl]
      · rw [h5]
        simp only
        rw [if_neg (by decide)]
        exact go s' r' E h2 h3 h4
    · rw [h1]
      simp only [bd3, nm_eq]
      rw [if_neg (by decide)]
      exact go s' r' E h2 h3 h4
