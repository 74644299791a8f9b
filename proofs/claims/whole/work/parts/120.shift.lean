/-! the class's Reducer: rows made shorter -/
def a6 (s : Nat → Int32) (q : F6) : Prop := s 0 = Int32.ofInt q.1 ∧ s 1 = Int32.ofInt q.2.1 ∧ s 2 = Int32.ofInt q.2.2.1 ∧ s 3 = Int32.ofInt q.2.2.2.1 ∧ s 4 = Int32.ofInt q.2.2.2.2.1 ∧ s 5 = Int32.ofInt q.2.2.2.2.2
def a9 (r : Nat → Int32) (M : T9) : Prop := r 0 = Int32.ofInt M.1.1 ∧ r 1 = Int32.ofInt M.1.2.1 ∧ r 2 = Int32.ofInt M.1.2.2 ∧ r 3 = Int32.ofInt M.2.1.1 ∧ r 4 = Int32.ofInt M.2.1.2.1 ∧ r 5 = Int32.ofInt M.2.1.2.2 ∧ r 6 = Int32.ofInt M.2.2.1 ∧ r 7 = Int32.ofInt M.2.2.2.1 ∧ r 8 = Int32.ofInt M.2.2.2.2
set_option maxRecDepth 10000 in
theorem s3_shift01 {s r : Nat → Int32} {q : F6} {M : T9} (hs : a6 s q) (hr : a9 r M) (t : Int) (n : Nat) : ∃ s' r', fX3_shift (n + 4) s r 0 1 (Int32.ofInt t) = some (s', r') ∧ a6 s' (qf_trn q ((1, t, 0), (0, 1, 0), (0, 0, 1))) ∧ a9 r' (qf_mul ((1, t, 0), (0, 1, 0), (0, 0, 1)) M) := by
  refine ⟨_, _, rfl, ?_, ?_⟩
  · obtain ⟨a, b, c, d, e, f⟩ := q
    obtain ⟨h0, h1, h2, h3, h4, h5⟩ := hs
    simp only at h0 h1 h2 h3 h4 h5
    refine ⟨?_, ?_, ?_, ?_, ?_, ?_⟩ <;> simp [upd, qf_trn, qf_val, qf_tch, h0, h1, h2, h3, h4, h5] <;> (try grind)
  · obtain ⟨⟨m0, m1, m2⟩, ⟨m3, m4, m5⟩, ⟨m6, m7, m8⟩⟩ := M
    obtain ⟨h0, h1, h2, h3, h4, h5, h6, h7, h8⟩ := hr
    simp only at h0 h1 h2 h3 h4 h5 h6 h7 h8
    refine ⟨?_, ?_, ?_, ?_, ?_, ?_, ?_, ?_, ?_⟩ <;> simp [upd, qf_mul, qf_lin, h0, h1, h2, h3, h4, h5, h6, h7, h8] <;> (try grind)
set_option maxRecDepth 10000 in
theorem s3_shift02 {s r : Nat → Int32} {q : F6} {M : T9} (hs : a6 s q) (hr : a9 r M) (t : Int) (n : Nat) : ∃ s' r', fX3_shift (n + 4) s r 0 2 (Int32.ofInt t) = some (s', r') ∧ a6 s' (qf_trn q ((1, 0, t), (0, 1, 0), (0, 0, 1))) ∧ a9 r' (qf_mul ((1, 0, t), (0, 1, 0), (0, 0, 1)) M) := by
  refine ⟨_, _, rfl, ?_, ?_⟩
  · obtain ⟨a, b, c, d, e, f⟩ := q
    obtain ⟨h0, h1, h2, h3, h4, h5⟩ := hs
    simp only at h0 h1 h2 h3 h4 h5
    refine ⟨?_, ?_, ?_, ?_, ?_, ?_⟩ <;> simp [upd, qf_trn, qf_val, qf_tch, h0, h1, h2, h3, h4, h5] <;> (try grind)
  · obtain ⟨⟨m0, m1, m2⟩, ⟨m3, m4, m5⟩, ⟨m6, m7, m8⟩⟩ := M
    obtain ⟨h0, h1, h2, h3, h4, h5, h6, h7, h8⟩ := hr
    simp only at h0 h1 h2 h3 h4 h5 h6 h7 h8
    refine ⟨?_, ?_, ?_, ?_, ?_, ?_, ?_, ?_, ?_⟩ <;> simp [upd, qf_mul, qf_lin, h0, h1, h2, h3, h4, h5, h6, h7, h8] <;> (try grind)
set_option maxRecDepth 10000 in
theorem s3_shift10 {s r : Nat → Int32} {q : F6} {M : T9} (hs : a6 s q) (hr : a9 r M) (t : Int) (n : Nat) : ∃ s' r', fX3_shift (n + 4) s r 1 0 (Int32.ofInt t) = some (s', r') ∧ a6 s' (qf_trn q ((1, 0, 0), (t, 1, 0), (0, 0, 1))) ∧ a9 r' (qf_mul ((1, 0, 0), (t, 1, 0), (0, 0, 1)) M) := by
  refine ⟨_, _, rfl, ?_, ?_⟩
  · obtain ⟨a, b, c, d, e, f⟩ := q
    obtain ⟨h0, h1, h2, h3, h4, h5⟩ := hs
    simp only at h0 h1 h2 h3 h4 h5
    refine ⟨?_, ?_, ?_, ?_, ?_, ?_⟩ <;> simp [upd, qf_trn, qf_val, qf_tch, h0, h1, h2, h3, h4, h5] <;> (try grind)
  · obtain ⟨⟨m0, m1, m2⟩, ⟨m3, m4, m5⟩, ⟨m6, m7, m8⟩⟩ := M
    obtain ⟨h0, h1, h2, h3, h4, h5, h6, h7, h8⟩ := hr
    simp only at h0 h1 h2 h3 h4 h5 h6 h7 h8
    refine ⟨?_, ?_, ?_, ?_, ?_, ?_, ?_, ?_, ?_⟩ <;> simp [upd, qf_mul, qf_lin, h0, h1, h2, h3, h4, h5, h6, h7, h8] <;> (try grind)
set_option maxRecDepth 10000 in
theorem s3_shift12 {s r : Nat → Int32} {q : F6} {M : T9} (hs : a6 s q) (hr : a9 r M) (t : Int) (n : Nat) : ∃ s' r', fX3_shift (n + 4) s r 1 2 (Int32.ofInt t) = some (s', r') ∧ a6 s' (qf_trn q ((1, 0, 0), (0, 1, t), (0, 0, 1))) ∧ a9 r' (qf_mul ((1, 0, 0), (0, 1, t), (0, 0, 1)) M) := by
  refine ⟨_, _, rfl, ?_, ?_⟩
  · obtain ⟨a, b, c, d, e, f⟩ := q
    obtain ⟨h0, h1, h2, h3, h4, h5⟩ := hs
    simp only at h0 h1 h2 h3 h4 h5
    refine ⟨?_, ?_, ?_, ?_, ?_, ?_⟩ <;> simp [upd, qf_trn, qf_val, qf_tch, h0, h1, h2, h3, h4, h5] <;> (try grind)
  · obtain ⟨⟨m0, m1, m2⟩, ⟨m3, m4, m5⟩, ⟨m6, m7, m8⟩⟩ := M
    obtain ⟨h0, h1, h2, h3, h4, h5, h6, h7, h8⟩ := hr
    simp only at h0 h1 h2 h3 h4 h5 h6 h7 h8
    refine ⟨?_, ?_, ?_, ?_, ?_, ?_, ?_, ?_, ?_⟩ <;> simp [upd, qf_mul, qf_lin, h0, h1, h2, h3, h4, h5, h6, h7, h8] <;> (try grind)
set_option maxRecDepth 10000 in
theorem s3_shift20 {s r : Nat → Int32} {q : F6} {M : T9} (hs : a6 s q) (hr : a9 r M) (t : Int) (n : Nat) : ∃ s' r', fX3_shift (n + 4) s r 2 0 (Int32.ofInt t) = some (s', r') ∧ a6 s' (qf_trn q ((1, 0, 0), (0, 1, 0), (t, 0, 1))) ∧ a9 r' (qf_mul ((1, 0, 0), (0, 1, 0), (t, 0, 1)) M) := by
  refine ⟨_, _, rfl, ?_, ?_⟩
  · obtain ⟨a, b, c, d, e, f⟩ := q
    obtain ⟨h0, h1, h2, h3, h4, h5⟩ := hs
    simp only at h0 h1 h2 h3 h4 h5
    refine ⟨?_, ?_, ?_, ?_, ?_, ?_⟩ <;> simp [upd, qf_trn, qf_val, qf_tch, h0, h1, h2, h3, h4, h5] <;> (try grind)
  · obtain ⟨⟨m0, m1, m2⟩, ⟨m3, m4, m5⟩, ⟨m6, m7, m8⟩⟩ := M
    obtain ⟨h0, h1, h2, h3, h4, h5, h6, h7, h8⟩ := hr
    simp only at h0 h1 h2 h3 h4 h5 h6 h7 h8
    refine ⟨?_, ?_, ?_, ?_, ?_, ?_, ?_, ?_, ?_⟩ <;> simp [upd, qf_mul, qf_lin, h0, h1, h2, h3, h4, h5, h6, h7, h8] <;> (try grind)
set_option maxRecDepth 10000 in
theorem s3_shift21 {s r : Nat → Int32} {q : F6} {M : T9} (hs : a6 s q) (hr : a9 r M) (t : Int) (n : Nat) : ∃ s' r', fX3_shift (n + 4) s r 2 1 (Int32.ofInt t) = some (s', r') ∧ a6 s' (qf_trn q ((1, 0, 0), (0, 1, 0), (0, t, 1))) ∧ a9 r' (qf_mul ((1, 0, 0), (0, 1, 0), (0, t, 1)) M) := by
  refine ⟨_, _, rfl, ?_, ?_⟩
  · obtain ⟨a, b, c, d, e, f⟩ := q
    obtain ⟨h0, h1, h2, h3, h4, h5⟩ := hs
    simp only at h0 h1 h2 h3 h4 h5
    refine ⟨?_, ?_, ?_, ?_, ?_, ?_⟩ <;> simp [upd, qf_trn, qf_val, qf_tch, h0, h1, h2, h3, h4, h5] <;> (try grind)
  · obtain ⟨⟨m0, m1, m2⟩, ⟨m3, m4, m5⟩, ⟨m6, m7, m8⟩⟩ := M
    obtain ⟨h0, h1, h2, h3, h4, h5, h6, h7, h8⟩ := hr
    simp only at h0 h1 h2 h3 h4 h5 h6 h7 h8
    refine ⟨?_, ?_, ?_, ?_, ?_, ?_, ?_, ?_, ?_⟩ <;> simp [upd, qf_mul, qf_lin, h0, h1, h2, h3, h4, h5, h6, h7, h8] <;> (try grind)
