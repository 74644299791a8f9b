set_option maxHeartbeats 4000000 in
set_option maxRecDepth 100000 in
theorem LC_form {p : Program} {l : Launch} {e : Env} {s : State} {m : MethodId} {below : List Frame} {meth : Method} {c : Code} {H : Heap} {locs : List Loc} {cells slots : Nat} {Q : State → Prop} {b0 L : Nat} {xs : Nat → Int32} (C0 : lw_At p s m meth c b0 L xs) {A : Nat → Prop} (hA : ∀ q, s.heap.size ≤ q → A q) (hbA : ¬ A b0) {dC : Nat → ClassId} {dI : Nat → Nat → Nat} {cI cJ cF cG : ClassId} {h : Nat} {a ra la fo : Nat → Nat} {ga ya mb pb : Nat → Nat → Nat} {hm : Nat} {am : Nat → Nat} (hK : va_K (dC, dI) vwCl [(cI, .int), (cF, .object "KinForms$Form"), (cG, .array .int), (cJ, .long)] s) (hN : NW s) (hAD : AD A cI cJ cF cG h a ra la fo ga ya mb pb hm am) {b : BS} {F : Nat → FS} {x : MS} (hC : CW (dC, dI) cI cJ cF cG h a ra la fo ga ya mb pb hm am b F x H) (hI : INVb b F x) (hS : va_S A s.heap H locs) {ls : Array Slot} {i : Int32} (hl : lv_has ls 4 [(0, .ref b0), (1, .ref h), (2, .ref hm), (3, .int i)]) (hfit : cells ≤ 600000 ∧ slots ≤ 7302250) (hin : in12 i L) (kk : ∀ (H1 : Heap) (locs1 : List Loc) (b1 : BS) (F1 : Nat → FS) (x1 : MS), CW (dC, dI) cI cJ cF cG h a ra la fo ga ya mb pb hm am b1 F1 x1 H1 → INVb b1 F1 x1 → va_S A s.heap H1 locs1 → W p l e room_1 s m #[Value.ref b0] below meth c H1 locs1 cells slots Q (F0 m 988 ls [])) : W p l e room_1 s m #[Value.ref b0] below meth c H locs cells slots Q (F0 m 128 ls []) := by
  obtain ⟨hx, hb, hr, hml, hown, hts, hX, hbl, hlocks, hgv⟩ := id C0
  obtain ⟨hcn, pn, QF, hI⟩ := hI
  obtain ⟨k, hk12, hfo⟩ := kx b.1
  obtain ⟨a9, held'9, gv'9, fd9, ft9, fn9, fl9, fb9, yb9, ti'9, s'9, r'9, wo'9, im'9, be'9, br'9, forms'9, num'9, hc'9, QF'9, e6, e7, hI9⟩ := S_form hI (xs (i + 1).toNatClampNeg) (xs (i + 2).toNatClampNeg) (xs (i + 3).toNatClampNeg) (xs (i + 4).toNatClampNeg) (xs (i + 5).toNatClampNeg) (xs (i + 6).toNatClampNeg) hfo b.2.2.2.2.2.2.2.2.2.2.2.2.2.2.2.2.2.2.2.1 b.2.2.1 b.2.2.2.1 b.2.2.2.2.1 b.2.2.2.2.2.2.1 b.2.2.2.2.2.2.2.1 b.2.2.2.2.2.2.2.2.1 b.2.2.2.2.2.2.2.2.2.1 (Nat.le_refl 4000000000000)
  refine lv_aload_n hx hb dL_law_128 rfl (lv_at hl 1 rfl) ?_
  refine lv_aload_n hx hb dL_law_129 rfl (lv_at hl 0 rfl) ?_
  refine lv_iload_n hx hb dL_law_130 rfl (lv_at hl 3 rfl) ?_
  refine lv_iconst (v := 1) hx hb dL_law_131 (by decide) ?_
  refine lv_iadd hx hb dL_law_132 ?_
  refine va_sld hx hb hX hbl hbA hS hin.1 dL_law_133 ?_
  refine lv_aload_n hx hb dL_law_134 rfl (lv_at hl 0 rfl) ?_
  refine lv_iload_n hx hb dL_law_135 rfl (lv_at hl 3 rfl) ?_
  refine lv_iconst (v := 2) hx hb dL_law_136 (by decide) ?_
  refine lv_iadd hx hb dL_law_137 ?_
  refine va_sld hx hb hX hbl hbA hS hin.2.1 dL_law_138 ?_
  refine lv_aload_n hx hb dL_law_139 rfl (lv_at hl 0 rfl) ?_
  refine lv_iload_n hx hb dL_law_140 rfl (lv_at hl 3 rfl) ?_
  refine lv_iconst (v := 3) hx hb dL_law_141 (by decide) ?_
  refine lv_iadd hx hb dL_law_142 ?_
  refine va_sld hx hb hX hbl hbA hS hin.2.2.1 dL_law_143 ?_
  refine lv_aload_n hx hb dL_law_144 rfl (lv_at hl 0 rfl) ?_
  refine lv_iload_n hx hb dL_law_145 rfl (lv_at hl 3 rfl) ?_
  refine lv_iconst (v := 4) hx hb dL_law_146 (by decide) ?_
  refine lv_iadd hx hb dL_law_147 ?_
  refine va_sld hx hb hX hbl hbA hS hin.2.2.2.1 dL_law_148 ?_
  refine lv_aload_n hx hb dL_law_149 rfl (lv_at hl 0 rfl) ?_
  refine lv_iload_n hx hb dL_law_150 rfl (lv_at hl 3 rfl) ?_
  refine lv_iconst (v := 5) hx hb dL_law_151 (by decide) ?_
  refine lv_iadd hx hb dL_law_152 ?_
  refine va_sld hx hb hX hbl hbA hS hin.2.2.2.2.1 dL_law_153 ?_
  refine lv_aload_n hx hb dL_law_154 rfl (lv_at hl 0 rfl) ?_
  refine lv_iload_n hx hb dL_law_155 rfl (lv_at hl 3 rfl) ?_
  refine lv_bipush (v := 6) hx hb dL_law_156 (by decide) ?_
  refine lv_iadd hx hb dL_law_158 ?_
  refine va_sld hx hb hX hbl hbA hS hin.2.2.2.2.2.1 dL_law_159 ?_
  refine L_X6_form C0 hA hK hN hAD hC hS hl.1 hfit 4000000000000 hk12 (xs (i + 1).toNatClampNeg) (xs (i + 2).toNatClampNeg) (xs (i + 3).toNatClampNeg) (xs (i + 4).toNatClampNeg) (xs (i + 5).toNatClampNeg) (xs (i + 6).toNatClampNeg) hfo a9 held'9 gv'9 fd9 ft9 fn9 fl9 fb9 yb9 ti'9 s'9 r'9 wo'9 im'9 be'9 br'9 e6 (fun H1 locs1 hC1 hS1 => ?_)
  refine lv_aload_n hx hb dL_law_163 rfl (lv_at hl 2 rfl) ?_
  refine lv_aload_n hx hb dL_law_164 rfl (lv_at hl 0 rfl) ?_
  refine lv_iload_n hx hb dL_law_165 rfl (lv_at hl 3 rfl) ?_
  refine lv_iconst (v := 1) hx hb dL_law_166 (by decide) ?_
  refine lv_iadd hx hb dL_law_167 ?_
  refine va_sld hx hb hX hbl hbA hS1 hin.1 dL_law_168 ?_
  refine lv_aload_n hx hb dL_law_169 rfl (lv_at hl 0 rfl) ?_
  refine lv_iload_n hx hb dL_law_170 rfl (lv_at hl 3 rfl) ?_
  refine lv_iconst (v := 2) hx hb dL_law_171 (by decide) ?_
  refine lv_iadd hx hb dL_law_172 ?_
  refine va_sld hx hb hX hbl hbA hS1 hin.2.1 dL_law_173 ?_
  refine lv_aload_n hx hb dL_law_174 rfl (lv_at hl 0 rfl) ?_
  refine lv_iload_n hx hb dL_law_175 rfl (lv_at hl 3 rfl) ?_
  refine lv_iconst (v := 3) hx hb dL_law_176 (by decide) ?_
  refine lv_iadd hx hb dL_law_177 ?_
  refine va_sld hx hb hX hbl hbA hS1 hin.2.2.1 dL_law_178 ?_
  refine lv_aload_n hx hb dL_law_179 rfl (lv_at hl 0 rfl) ?_
  refine lv_iload_n hx hb dL_law_180 rfl (lv_at hl 3 rfl) ?_
  refine lv_iconst (v := 4) hx hb dL_law_181 (by decide) ?_
  refine lv_iadd hx hb dL_law_182 ?_
  refine va_sld hx hb hX hbl hbA hS1 hin.2.2.2.1 dL_law_183 ?_
  refine lv_aload_n hx hb dL_law_184 rfl (lv_at hl 0 rfl) ?_
  refine lv_iload_n hx hb dL_law_185 rfl (lv_at hl 3 rfl) ?_
  refine lv_iconst (v := 5) hx hb dL_law_186 (by decide) ?_
  refine lv_iadd hx hb dL_law_187 ?_
  refine va_sld hx hb hX hbl hbA hS1 hin.2.2.2.2.1 dL_law_188 ?_
  refine lv_aload_n hx hb dL_law_189 rfl (lv_at hl 0 rfl) ?_
  refine lv_iload_n hx hb dL_law_190 rfl (lv_at hl 3 rfl) ?_
  refine lv_bipush (v := 6) hx hb dL_law_191 (by decide) ?_
  refine lv_iadd hx hb dL_law_193 ?_
  refine va_sld hx hb hX hbl hbA hS1 hin.2.2.2.2.2.1 dL_law_194 ?_
  refine L_X7_form C0 hA hK hN hAD hC1 hS1 hl.1 hfit (xs (i + 1).toNatClampNeg) (xs (i + 2).toNatClampNeg) (xs (i + 3).toNatClampNeg) (xs (i + 4).toNatClampNeg) (xs (i + 5).toNatClampNeg) (xs (i + 6).toNatClampNeg) a9 a9 forms'9 num'9  e7 (fun H2 locs2 hC2 hS2 => ?_)
  refine lv_icmp_eq (tgt := 988) hx hb dL_law_198 (by decide) (fun _ => ?_) (fun c9 => absurd rfl c9)
  exact kk _ _ _ _ _ hC2 ⟨_, _, _, hI9⟩ hS2
set_option maxHeartbeats 4000000 in
set_option maxRecDepth 100000 in
theorem LC_set {p : Program} {l : Launch} {e : Env} {s : State} {m : MethodId} {below : List Frame} {meth : Method} {c : Code} {H : Heap} {locs : List Loc} {cells slots : Nat} {Q : State → Prop} {b0 L : Nat} {xs : Nat → Int32} (C0 : lw_At p s m meth c b0 L xs) {A : Nat → Prop} (hA : ∀ q, s.heap.size ≤ q → A q) (hbA : ¬ A b0) {dC : Nat → ClassId} {dI : Nat → Nat → Nat} {cI cJ cF cG : ClassId} {h : Nat} {a ra la fo : Nat → Nat} {ga ya mb pb : Nat → Nat → Nat} {hm : Nat} {am : Nat → Nat} (hK : va_K (dC, dI) vwCl [(cI, .int), (cF, .object "KinForms$Form"), (cG, .array .int), (cJ, .long)] s) (hN : NW s) (hAD : AD A cI cJ cF cG h a ra la fo ga ya mb pb hm am) {b : BS} {F : Nat → FS} {x : MS} (hC : CW (dC, dI) cI cJ cF cG h a ra la fo ga ya mb pb hm am b F x H) (hI : INVb b F x) (hS : va_S A s.heap H locs) {ls : Array Slot} {i : Int32} (hl : lv_has ls 4 [(0, .ref b0), (1, .ref h), (2, .ref hm), (3, .int i)]) (hfit : cells ≤ 600000 ∧ slots ≤ 7302250) (hin : in12 i L) (kk : ∀ (H1 : Heap) (locs1 : List Loc) (b1 : BS) (F1 : Nat → FS) (x1 : MS), CW (dC, dI) cI cJ cF cG h a ra la fo ga ya mb pb hm am b1 F1 x1 H1 → INVb b1 F1 x1 → va_S A s.heap H1 locs1 → W p l e room_1 s m #[Value.ref b0] below meth c H1 locs1 cells slots Q (F0 m 988 ls [])) : W p l e room_1 s m #[Value.ref b0] below meth c H locs cells slots Q (F0 m 203 ls []) := by
  obtain ⟨hx, hb, hr, hml, hown, hts, hX, hbl, hlocks, hgv⟩ := id C0
  obtain ⟨hcn, pn, QF, hI⟩ := hI
  obtain ⟨k, hk12, hfo⟩ := kx (xs (i + 1).toNatClampNeg)
  obtain ⟨a9, gv'9, fd9, ft9, fn9, fl9, fb9, yb9, ti'9, s'9, r'9, wo'9, im'9, be'9, br'9, num'9, QF'9, e6, e7, hI9⟩ := S_set hI (xs (i + 1).toNatClampNeg) (xs (i + 2).toNatClampNeg) (xs (i + 3).toNatClampNeg) (xs (i + 4).toNatClampNeg) (xs (i + 5).toNatClampNeg) (xs (i + 6).toNatClampNeg) (xs (i + 7).toNatClampNeg) hfo b.2.2.2.2.2.2.2.2.2.2.2.2.2.2.2.2.2.2.2.1 b.2.2.1 b.2.2.2.1 b.2.2.2.2.1 b.2.2.2.2.2.2.1 b.2.2.2.2.2.2.2.1 b.2.2.2.2.2.2.2.2.1 b.2.2.2.2.2.2.2.2.2.1 (Nat.le_refl 4000000000000)
  refine lv_aload_n hx hb dL_law_203 rfl (lv_at hl 1 rfl) ?_
  refine lv_aload_n hx hb dL_law_204 rfl (lv_at hl 0 rfl) ?_
  refine lv_iload_n hx hb dL_law_205 rfl (lv_at hl 3 rfl) ?_
  refine lv_iconst (v := 1) hx hb dL_law_206 (by decide) ?_
  refine lv_iadd hx hb dL_law_207 ?_
  refine va_sld hx hb hX hbl hbA hS hin.1 dL_law_208 ?_
  refine lv_aload_n hx hb dL_law_209 rfl (lv_at hl 0 rfl) ?_
  refine lv_iload_n hx hb dL_law_210 rfl (lv_at hl 3 rfl) ?_
  refine lv_iconst (v := 2) hx hb dL_law_211 (by decide) ?_
  refine lv_iadd hx hb dL_law_212 ?_
  refine va_sld hx hb hX hbl hbA hS hin.2.1 dL_law_213 ?_
  refine lv_aload_n hx hb dL_law_214 rfl (lv_at hl 0 rfl) ?_
  refine lv_iload_n hx hb dL_law_215 rfl (lv_at hl 3 rfl) ?_
  refine lv_iconst (v := 3) hx hb dL_law_216 (by decide) ?_
  refine lv_iadd hx hb dL_law_217 ?_
  refine va_sld hx hb hX hbl hbA hS hin.2.2.1 dL_law_218 ?_
  refine lv_aload_n hx hb dL_law_219 rfl (lv_at hl 0 rfl) ?_
  refine lv_iload_n hx hb dL_law_220 rfl (lv_at hl 3 rfl) ?_
  refine lv_iconst (v := 4) hx hb dL_law_221 (by decide) ?_
  refine lv_iadd hx hb dL_law_222 ?_
  refine va_sld hx hb hX hbl hbA hS hin.2.2.2.1 dL_law_223 ?_
  refine lv_aload_n hx hb dL_law_224 rfl (lv_at hl 0 rfl) ?_
  refine lv_iload_n hx hb dL_law_225 rfl (lv_at hl 3 rfl) ?_
  refine lv_iconst (v := 5) hx hb dL_law_226 (by decide) ?_
  refine lv_iadd hx hb dL_law_227 ?_
  refine va_sld hx hb hX hbl hbA hS hin.2.2.2.2.1 dL_law_228 ?_
  refine lv_aload_n hx hb dL_law_229 rfl (lv_at hl 0 rfl) ?_
  refine lv_iload_n hx hb dL_law_230 rfl (lv_at hl 3 rfl) ?_
  refine lv_bipush (v := 6) hx hb dL_law_231 (by decide) ?_
  refine lv_iadd hx hb dL_law_233 ?_
  refine va_sld hx hb hX hbl hbA hS hin.2.2.2.2.2.1 dL_law_234 ?_
  refine lv_aload_n hx hb dL_law_235 rfl (lv_at hl 0 rfl) ?_
  refine lv_iload_n hx hb dL_law_236 rfl (lv_at hl 3 rfl) ?_
  refine lv_bipush (v := 7) hx hb dL_law_237 (by decide) ?_
  refine lv_iadd hx hb dL_law_239 ?_
  refine va_sld hx hb hX hbl hbA hS hin.2.2.2.2.2.2.1 dL_law_240 ?_
  refine L_X6_set C0 hA hK hN hAD hC hS hl.1 hfit 4000000000000 hk12 (xs (i + 1).toNatClampNeg) (xs (i + 2).toNatClampNeg) (xs (i + 3).toNatClampNeg) (xs (i + 4).toNatClampNeg) (xs (i + 5).toNatClampNeg) (xs (i + 6).toNatClampNeg) (xs (i + 7).toNatClampNeg) hfo a9 gv'9 fd9 ft9 fn9 fl9 fb9 yb9 ti'9 s'9 r'9 wo'9 im'9 be'9 br'9 e6 (fun H1 locs1 hC1 hS1 => ?_)
  refine lv_aload_n hx hb dL_law_244 rfl (lv_at hl 2 rfl) ?_
  refine lv_aload_n hx hb dL_law_245 rfl (lv_at hl 0 rfl) ?_
  refine lv_iload_n hx hb dL_law_246 rfl (lv_at hl 3 rfl) ?_
  refine lv_iconst (v := 1) hx hb dL_law_247 (by decide) ?_
  refine lv_iadd hx hb dL_law_248 ?_
  refine va_sld hx hb hX hbl hbA hS1 hin.1 dL_law_249 ?_
  refine lv_aload_n hx hb dL_law_250 rfl (lv_at hl 0 rfl) ?_
  refine lv_iload_n hx hb dL_law_251 rfl (lv_at hl 3 rfl) ?_
  refine lv_iconst (v := 2) hx hb dL_law_252 (by decide) ?_
  refine lv_iadd hx hb dL_law_253 ?_
  refine va_sld hx hb hX hbl hbA hS1 hin.2.1 dL_law_254 ?_
  refine lv_aload_n hx hb dL_law_255 rfl (lv_at hl 0 rfl) ?_
  refine lv_iload_n hx hb dL_law_256 rfl (lv_at hl 3 rfl) ?_
  refine lv_iconst (v := 3) hx hb dL_law_257 (by decide) ?_
  refine lv_iadd hx hb dL_law_258 ?_
  refine va_sld hx hb hX hbl hbA hS1 hin.2.2.1 dL_law_259 ?_
  refine lv_aload_n hx hb dL_law_260 rfl (lv_at hl 0 rfl) ?_
  refine lv_iload_n hx hb dL_law_261 rfl (lv_at hl 3 rfl) ?_
  refine lv_iconst (v := 4) hx hb dL_law_262 (by decide) ?_
  refine lv_iadd hx hb dL_law_263 ?_
  refine va_sld hx hb hX hbl hbA hS1 hin.2.2.2.1 dL_law_264 ?_
  refine lv_aload_n hx hb dL_law_265 rfl (lv_at hl 0 rfl) ?_
  refine lv_iload_n hx hb dL_law_266 rfl (lv_at hl 3 rfl) ?_
  refine lv_iconst (v := 5) hx hb dL_law_267 (by decide) ?_
  refine lv_iadd hx hb dL_law_268 ?_
  refine va_sld hx hb hX hbl hbA hS1 hin.2.2.2.2.1 dL_law_269 ?_
  refine lv_aload_n hx hb dL_law_270 rfl (lv_at hl 0 rfl) ?_
  refine lv_iload_n hx hb dL_law_271 rfl (lv_at hl 3 rfl) ?_
  refine lv_bipush (v := 6) hx hb dL_law_272 (by decide) ?_
  refine lv_iadd hx hb dL_law_274 ?_
  refine va_sld hx hb hX hbl hbA hS1 hin.2.2.2.2.2.1 dL_law_275 ?_
  refine lv_aload_n hx hb dL_law_276 rfl (lv_at hl 0 rfl) ?_
  refine lv_iload_n hx hb dL_law_277 rfl (lv_at hl 3 rfl) ?_
  refine lv_bipush (v := 7) hx hb dL_law_278 (by decide) ?_
  refine lv_iadd hx hb dL_law_280 ?_
  refine va_sld hx hb hX hbl hbA hS1 hin.2.2.2.2.2.2.1 dL_law_281 ?_
  refine L_X7_set C0 hA hK hN hAD hC1 hS1 hl.1 hfit (xs (i + 1).toNatClampNeg) (xs (i + 2).toNatClampNeg) (xs (i + 3).toNatClampNeg) (xs (i + 4).toNatClampNeg) (xs (i + 5).toNatClampNeg) (xs (i + 6).toNatClampNeg) (xs (i + 7).toNatClampNeg) a9 a9 num'9  e7 (fun H2 locs2 hC2 hS2 => ?_)
  refine lv_icmp_eq (tgt := 988) hx hb dL_law_285 (by decide) (fun _ => ?_) (fun c9 => absurd rfl c9)
  exact kk _ _ _ _ _ hC2 ⟨_, _, _, hI9⟩ hS2
set_option maxHeartbeats 4000000 in
set_option maxRecDepth 100000 in
theorem LC_drop {p : Program} {l : Launch} {e : Env} {s : State} {m : MethodId} {below : List Frame} {meth : Method} {c : Code} {H : Heap} {locs : List Loc} {cells slots : Nat} {Q : State → Prop} {b0 L : Nat} {xs : Nat → Int32} (C0 : lw_At p s m meth c b0 L xs) {A : Nat → Prop} (hA : ∀ q, s.heap.size ≤ q → A q) (hbA : ¬ A b0) {dC : Nat → ClassId} {dI : Nat → Nat → Nat} {cI cJ cF cG : ClassId} {h : Nat} {a ra la fo : Nat → Nat} {ga ya mb pb : Nat → Nat → Nat} {hm : Nat} {am : Nat → Nat} (hK : va_K (dC, dI) vwCl [(cI, .int), (cF, .object "KinForms$Form"), (cG, .array .int), (cJ, .long)] s) (hN : NW s) (hAD : AD A cI cJ cF cG h a ra la fo ga ya mb pb hm am) {b : BS} {F : Nat → FS} {x : MS} (hC : CW (dC, dI) cI cJ cF cG h a ra la fo ga ya mb pb hm am b F x H) (hI : INVb b F x) (hS : va_S A s.heap H locs) {ls : Array Slot} {i : Int32} (hl : lv_has ls 4 [(0, .ref b0), (1, .ref h), (2, .ref hm), (3, .int i)]) (hfit : cells ≤ 600000 ∧ slots ≤ 7302250) (hin : in12 i L) (kk : ∀ (H1 : Heap) (locs1 : List Loc) (b1 : BS) (F1 : Nat → FS) (x1 : MS), CW (dC, dI) cI cJ cF cG h a ra la fo ga ya mb pb hm am b1 F1 x1 H1 → INVb b1 F1 x1 → va_S A s.heap H1 locs1 → W p l e room_1 s m #[Value.ref b0] below meth c H1 locs1 cells slots Q (F0 m 988 ls [])) : W p l e room_1 s m #[Value.ref b0] below meth c H locs cells slots Q (F0 m 290 ls []) := by
  obtain ⟨hx, hb, hr, hml, hown, hts, hX, hbl, hlocks, hgv⟩ := id C0
  obtain ⟨hcn, pn, QF, hI⟩ := hI
  have hk12 : (0 : Nat) < 12 := by decide
  obtain ⟨ro9, o9, hc'9, e6, e7, hI9⟩ := S_drop hI
  refine lv_aload_n hx hb dL_law_290 rfl (lv_at hl 1 rfl) ?_
  refine L_X6_drop C0 hA hK hN hAD hC hS hl.1 hfit (k := 0) hk12  ro9 o9 e6 (fun H1 locs1 hC1 hS1 => ?_)
  refine lv_aload_n hx hb dL_law_294 rfl (lv_at hl 2 rfl) ?_
  refine L_X7_drop C0 hA hK hN hAD hC1 hS1 hl.1 hfit  ro9 ro9 o9  e7 (fun H2 locs2 hC2 hS2 => ?_)
  refine lv_icmp_eq (tgt := 988) hx hb dL_law_298 (by decide) (fun _ => ?_) (fun c9 => absurd rfl c9)
  exact kk _ _ _ _ _ hC2 ⟨_, _, _, (va_up_id F 0).symm ▸ hI9⟩ hS2
set_option maxHeartbeats 4000000 in
set_option maxRecDepth 100000 in
theorem LC_told {p : Program} {l : Launch} {e : Env} {s : State} {m : MethodId} {below : List Frame} {meth : Method} {c : Code} {H : Heap} {locs : List Loc} {cells slots : Nat} {Q : State → Prop} {b0 L : Nat} {xs : Nat → Int32} (C0 : lw_At p s m meth c b0 L xs) {A : Nat → Prop} (hA : ∀ q, s.heap.size ≤ q → A q) (hbA : ¬ A b0) {dC : Nat → ClassId} {dI : Nat → Nat → Nat} {cI cJ cF cG : ClassId} {h : Nat} {a ra la fo : Nat → Nat} {ga ya mb pb : Nat → Nat → Nat} {hm : Nat} {am : Nat → Nat} (hK : va_K (dC, dI) vwCl [(cI, .int), (cF, .object "KinForms$Form"), (cG, .array .int), (cJ, .long)] s) (hN : NW s) (hAD : AD A cI cJ cF cG h a ra la fo ga ya mb pb hm am) {b : BS} {F : Nat → FS} {x : MS} (hC : CW (dC, dI) cI cJ cF cG h a ra la fo ga ya mb pb hm am b F x H) (hI : INVb b F x) (hS : va_S A s.heap H locs) {ls : Array Slot} {i : Int32} (hl : lv_has ls 4 [(0, .ref b0), (1, .ref h), (2, .ref hm), (3, .int i)]) (hfit : cells ≤ 600000 ∧ slots ≤ 7302250) (hin : in12 i L) (kk : ∀ (H1 : Heap) (locs1 : List Loc) (b1 : BS) (F1 : Nat → FS) (x1 : MS), CW (dC, dI) cI cJ cF cG h a ra la fo ga ya mb pb hm am b1 F1 x1 H1 → INVb b1 F1 x1 → va_S A s.heap H1 locs1 → W p l e room_1 s m #[Value.ref b0] below meth c H1 locs1 cells slots Q (F0 m 988 ls [])) : W p l e room_1 s m #[Value.ref b0] below meth c H locs cells slots Q (F0 m 303 ls []) := by
  obtain ⟨hx, hb, hr, hml, hown, hts, hX, hbl, hlocks, hgv⟩ := id C0
  obtain ⟨hcn, pn, QF, hI⟩ := hI
  obtain ⟨k, hk12, hfo⟩ := kx (xs (i + 1).toNatClampNeg)
  obtain ⟨r9, tn'9, q'9, ba'9, le'9, tb'9, ro'9, li'9, sz'9, tr'9, e6, e7⟩ := S_told hI (xs (i + 1).toNatClampNeg) (xs (i + 2).toNatClampNeg) hfo x.2.2.1 x.2.2.2.2.2.2.2.2.2.1 x.2.2.2.2.2.2.2.2.2.2.1 x.2.2.2.2.2.2.2.2.2.2.2.1 x.2.2.2.2.2.2.2.2.2.2.2.2.1 x.2.2.2.2.2.2.2.2.2.2.2.2.2.1 x.2.2.2.2.2.2.2.2.2.2.2.2.2.2.1 x.2.2.2.2.2.2.2.2.2.2.2.2.2.2.2.1 x.2.2.2.2.2.2.2.2.2.2.2.2.2.2.2.2.1 (Nat.le_refl 4000000000000)
  refine lv_aload_n hx hb dL_law_303 rfl (lv_at hl 1 rfl) ?_
  refine lv_aload_n hx hb dL_law_304 rfl (lv_at hl 0 rfl) ?_
  refine lv_iload_n hx hb dL_law_305 rfl (lv_at hl 3 rfl) ?_
  refine lv_iconst (v := 1) hx hb dL_law_306 (by decide) ?_
  refine lv_iadd hx hb dL_law_307 ?_
  refine va_sld hx hb hX hbl hbA hS hin.1 dL_law_308 ?_
  refine lv_aload_n hx hb dL_law_309 rfl (lv_at hl 0 rfl) ?_
  refine lv_iload_n hx hb dL_law_310 rfl (lv_at hl 3 rfl) ?_
  refine lv_iconst (v := 2) hx hb dL_law_311 (by decide) ?_
  refine lv_iadd hx hb dL_law_312 ?_
  refine va_sld hx hb hX hbl hbA hS hin.2.1 dL_law_313 ?_
  refine L_X6_told C0 hA hK hN hAD hC hS hl.1 hfit hk12 (xs (i + 1).toNatClampNeg) (xs (i + 2).toNatClampNeg) hfo r9 e6 ?_
  refine lv_aload_n hx hb dL_law_317 rfl (lv_at hl 2 rfl) ?_
  refine lv_aload_n hx hb dL_law_318 rfl (lv_at hl 0 rfl) ?_
  refine lv_iload_n hx hb dL_law_319 rfl (lv_at hl 3 rfl) ?_
  refine lv_iconst (v := 1) hx hb dL_law_320 (by decide) ?_
  refine lv_iadd hx hb dL_law_321 ?_
  refine va_sld hx hb hX hbl hbA hS hin.1 dL_law_322 ?_
  refine lv_aload_n hx hb dL_law_323 rfl (lv_at hl 0 rfl) ?_
  refine lv_iload_n hx hb dL_law_324 rfl (lv_at hl 3 rfl) ?_
  refine lv_iconst (v := 2) hx hb dL_law_325 (by decide) ?_
  refine lv_iadd hx hb dL_law_326 ?_
  refine va_sld hx hb hX hbl hbA hS hin.2.1 dL_law_327 ?_
  refine L_X7_told C0 hA hK hN hAD hC hS hl.1 hfit 4000000000000 (xs (i + 1).toNatClampNeg) (xs (i + 2).toNatClampNeg) r9 r9 tn'9 q'9 ba'9 le'9 tb'9 ro'9 li'9 sz'9 tr'9  e7 (fun H2 locs2 hC2 hS2 => ?_)
  refine lv_icmp_eq (tgt := 988) hx hb dL_law_331 (by decide) (fun _ => ?_) (fun c9 => absurd rfl c9)
  exact kk _ _ _ _ _ hC2 ⟨_, _, _, hI⟩ hS2
set_option maxHeartbeats 4000000 in
set_option maxRecDepth 100000 in
theorem LC_value {p : Program} {l : Launch} {e : Env} {s : State} {m : MethodId} {below : List Frame} {meth : Method} {c : Code} {H : Heap} {locs : List Loc} {cells slots : Nat} {Q : State → Prop} {b0 L : Nat} {xs : Nat → Int32} (C0 : lw_At p s m meth c b0 L xs) {A : Nat → Prop} (hA : ∀ q, s.heap.size ≤ q → A q) (hbA : ¬ A b0) {dC : Nat → ClassId} {dI : Nat → Nat → Nat} {cI cJ cF cG : ClassId} {h : Nat} {a ra la fo : Nat → Nat} {ga ya mb pb : Nat → Nat → Nat} {hm : Nat} {am : Nat → Nat} (hK : va_K (dC, dI) vwCl [(cI, .int), (cF, .object "KinForms$Form"), (cG, .array .int), (cJ, .long)] s) (hN : NW s) (hAD : AD A cI cJ cF cG h a ra la fo ga ya mb pb hm am) {b : BS} {F : Nat → FS} {x : MS} (hC : CW (dC, dI) cI cJ cF cG h a ra la fo ga ya mb pb hm am b F x H) (hI : INVb b F x) (hS : va_S A s.heap H locs) {ls : Array Slot} {i : Int32} (hl : lv_has ls 4 [(0, .ref b0), (1, .ref h), (2, .ref hm), (3, .int i)]) (hfit : cells ≤ 600000 ∧ slots ≤ 7302250) (hin : in12 i L) (kk : ∀ (H1 : Heap) (locs1 : List Loc) (b1 : BS) (F1 : Nat → FS) (x1 : MS), CW (dC, dI) cI cJ cF cG h a ra la fo ga ya mb pb hm am b1 F1 x1 H1 → INVb b1 F1 x1 → va_S A s.heap H1 locs1 → W p l e room_1 s m #[Value.ref b0] below meth c H1 locs1 cells slots Q (F0 m 988 ls [])) : W p l e room_1 s m #[Value.ref b0] below meth c H locs cells slots Q (F0 m 336 ls []) := by
  obtain ⟨hx, hb, hr, hml, hown, hts, hX, hbl, hlocks, hgv⟩ := id C0
  obtain ⟨hcn, pn, QF, hI⟩ := hI
  obtain ⟨k, hk12, hfo⟩ := kx (xs (i + 1).toNatClampNeg)
  obtain ⟨r9, q'9, e6, e7⟩ := S_value hI (xs (i + 1).toNatClampNeg) (xs (i + 2).toNatClampNeg) (xs (i + 3).toNatClampNeg) (xs (i + 4).toNatClampNeg) hfo x.2.2.2.2.2.2.2.2.2.1 (Nat.le_refl 4000000000000)
  refine lv_aload_n hx hb dL_law_336 rfl (lv_at hl 1 rfl) ?_
  refine lv_aload_n hx hb dL_law_337 rfl (lv_at hl 0 rfl) ?_
  refine lv_iload_n hx hb dL_law_338 rfl (lv_at hl 3 rfl) ?_
  refine lv_iconst (v := 1) hx hb dL_law_339 (by decide) ?_
  refine lv_iadd hx hb dL_law_340 ?_
  refine va_sld hx hb hX hbl hbA hS hin.1 dL_law_341 ?_
  refine lv_aload_n hx hb dL_law_342 rfl (lv_at hl 0 rfl) ?_
  refine lv_iload_n hx hb dL_law_343 rfl (lv_at hl 3 rfl) ?_
  refine lv_iconst (v := 2) hx hb dL_law_344 (by decide) ?_
  refine lv_iadd hx hb dL_law_345 ?_
  refine va_sld hx hb hX hbl hbA hS hin.2.1 dL_law_346 ?_
  refine lv_aload_n hx hb dL_law_347 rfl (lv_at hl 0 rfl) ?_
  refine lv_iload_n hx hb dL_law_348 rfl (lv_at hl 3 rfl) ?_
  refine lv_iconst (v := 3) hx hb dL_law_349 (by decide) ?_
  refine lv_iadd hx hb dL_law_350 ?_
  refine va_sld hx hb hX hbl hbA hS hin.2.2.1 dL_law_351 ?_
  refine lv_aload_n hx hb dL_law_352 rfl (lv_at hl 0 rfl) ?_
  refine lv_iload_n hx hb dL_law_353 rfl (lv_at hl 3 rfl) ?_
  refine lv_iconst (v := 4) hx hb dL_law_354 (by decide) ?_
  refine lv_iadd hx hb dL_law_355 ?_
  refine va_sld hx hb hX hbl hbA hS hin.2.2.2.1 dL_law_356 ?_
  refine L_X6_value C0 hA hK hN hAD hC hS hl.1 hfit hk12 (xs (i + 1).toNatClampNeg) (xs (i + 2).toNatClampNeg) (xs (i + 3).toNatClampNeg) (xs (i + 4).toNatClampNeg) hfo r9 e6 ?_
  refine lv_aload_n hx hb dL_law_360 rfl (lv_at hl 2 rfl) ?_
  refine lv_aload_n hx hb dL_law_361 rfl (lv_at hl 0 rfl) ?_
  refine lv_iload_n hx hb dL_law_362 rfl (lv_at hl 3 rfl) ?_
  refine lv_iconst (v := 1) hx hb dL_law_363 (by decide) ?_
  refine lv_iadd hx hb dL_law_364 ?_
  refine va_sld hx hb hX hbl hbA hS hin.1 dL_law_365 ?_
  refine lv_aload_n hx hb dL_law_366 rfl (lv_at hl 0 rfl) ?_
  refine lv_iload_n hx hb dL_law_367 rfl (lv_at hl 3 rfl) ?_
  refine lv_iconst (v := 2) hx hb dL_law_368 (by decide) ?_
  refine lv_iadd hx hb dL_law_369 ?_
  refine va_sld hx hb hX hbl hbA hS hin.2.1 dL_law_370 ?_
  refine lv_aload_n hx hb dL_law_371 rfl (lv_at hl 0 rfl) ?_
  refine lv_iload_n hx hb dL_law_372 rfl (lv_at hl 3 rfl) ?_
  refine lv_iconst (v := 3) hx hb dL_law_373 (by decide) ?_
  refine lv_iadd hx hb dL_law_374 ?_
  refine va_sld hx hb hX hbl hbA hS hin.2.2.1 dL_law_375 ?_
  refine lv_aload_n hx hb dL_law_376 rfl (lv_at hl 0 rfl) ?_
  refine lv_iload_n hx hb dL_law_377 rfl (lv_at hl 3 rfl) ?_
  refine lv_iconst (v := 4) hx hb dL_law_378 (by decide) ?_
  refine lv_iadd hx hb dL_law_379 ?_
  refine va_sld hx hb hX hbl hbA hS hin.2.2.2.1 dL_law_380 ?_
  refine L_X7_value C0 hA hK hN hAD hC hS hl.1 hfit 4000000000000 (xs (i + 1).toNatClampNeg) (xs (i + 2).toNatClampNeg) (xs (i + 3).toNatClampNeg) (xs (i + 4).toNatClampNeg) r9 r9 q'9  e7 (fun H2 locs2 hC2 hS2 => ?_)
  refine lv_icmp_eq (tgt := 988) hx hb dL_law_384 (by decide) (fun _ => ?_) (fun c9 => absurd rfl c9)
  exact kk _ _ _ _ _ hC2 ⟨_, _, _, hI⟩ hS2
set_option maxHeartbeats 4000000 in
set_option maxRecDepth 100000 in
theorem LC_taken {p : Program} {l : Launch} {e : Env} {s : State} {m : MethodId} {below : List Frame} {meth : Method} {c : Code} {H : Heap} {locs : List Loc} {cells slots : Nat} {Q : State → Prop} {b0 L : Nat} {xs : Nat → Int32} (C0 : lw_At p s m meth c b0 L xs) {A : Nat → Prop} (hA : ∀ q, s.heap.size ≤ q → A q) (hbA : ¬ A b0) {dC : Nat → ClassId} {dI : Nat → Nat → Nat} {cI cJ cF cG : ClassId} {h : Nat} {a ra la fo : Nat → Nat} {ga ya mb pb : Nat → Nat → Nat} {hm : Nat} {am : Nat → Nat} (hK : va_K (dC, dI) vwCl [(cI, .int), (cF, .object "KinForms$Form"), (cG, .array .int), (cJ, .long)] s) (hN : NW s) (hAD : AD A cI cJ cF cG h a ra la fo ga ya mb pb hm am) {b : BS} {F : Nat → FS} {x : MS} (hC : CW (dC, dI) cI cJ cF cG h a ra la fo ga ya mb pb hm am b F x H) (hI : INVb b F x) (hS : va_S A s.heap H locs) {ls : Array Slot} {i : Int32} (hl : lv_has ls 4 [(0, .ref b0), (1, .ref h), (2, .ref hm), (3, .int i)]) (hfit : cells ≤ 600000 ∧ slots ≤ 7302250) (hin : in12 i L) (kk : ∀ (H1 : Heap) (locs1 : List Loc) (b1 : BS) (F1 : Nat → FS) (x1 : MS), CW (dC, dI) cI cJ cF cG h a ra la fo ga ya mb pb hm am b1 F1 x1 H1 → INVb b1 F1 x1 → va_S A s.heap H1 locs1 → W p l e room_1 s m #[Value.ref b0] below meth c H1 locs1 cells slots Q (F0 m 988 ls [])) : W p l e room_1 s m #[Value.ref b0] below meth c H locs cells slots Q (F0 m 389 ls []) := by
  obtain ⟨hx, hb, hr, hml, hown, hts, hX, hbl, hlocks, hgv⟩ := id C0
  obtain ⟨hcn, pn, QF, hI⟩ := hI
  obtain ⟨k, hk12, hfo⟩ := kx (xs (i + 1).toNatClampNeg)
  obtain ⟨r9, q'9, ba'9, e6, e7⟩ := S_taken hI (xs (i + 1).toNatClampNeg) (xs (i + 2).toNatClampNeg) hfo x.2.2.2.2.2.2.2.2.2.1 x.2.2.2.2.2.2.2.2.2.2.1 (Nat.le_refl 4000000000000)
  refine lv_aload_n hx hb dL_law_389 rfl (lv_at hl 1 rfl) ?_
  refine lv_aload_n hx hb dL_law_390 rfl (lv_at hl 0 rfl) ?_
  refine lv_iload_n hx hb dL_law_391 rfl (lv_at hl 3 rfl) ?_
  refine lv_iconst (v := 1) hx hb dL_law_392 (by decide) ?_
  refine lv_iadd hx hb dL_law_393 ?_
  refine va_sld hx hb hX hbl hbA hS hin.1 dL_law_394 ?_
  refine lv_aload_n hx hb dL_law_395 rfl (lv_at hl 0 rfl) ?_
  refine lv_iload_n hx hb dL_law_396 rfl (lv_at hl 3 rfl) ?_
  refine lv_iconst (v := 2) hx hb dL_law_397 (by decide) ?_
  refine lv_iadd hx hb dL_law_398 ?_
  refine va_sld hx hb hX hbl hbA hS hin.2.1 dL_law_399 ?_
  refine L_X6_taken C0 hA hK hN hAD hC hS hl.1 hfit 4000000000000 hk12 (xs (i + 1).toNatClampNeg) (xs (i + 2).toNatClampNeg) hfo r9 e6 ?_
  refine lv_aload_n hx hb dL_law_403 rfl (lv_at hl 2 rfl) ?_
  refine lv_aload_n hx hb dL_law_404 rfl (lv_at hl 0 rfl) ?_
  refine lv_iload_n hx hb dL_law_405 rfl (lv_at hl 3 rfl) ?_
  refine lv_iconst (v := 1) hx hb dL_law_406 (by decide) ?_
  refine lv_iadd hx hb dL_law_407 ?_
  refine va_sld hx hb hX hbl hbA hS hin.1 dL_law_408 ?_
  refine lv_aload_n hx hb dL_law_409 rfl (lv_at hl 0 rfl) ?_
  refine lv_iload_n hx hb dL_law_410 rfl (lv_at hl 3 rfl) ?_
  refine lv_iconst (v := 2) hx hb dL_law_411 (by decide) ?_
  refine lv_iadd hx hb dL_law_412 ?_
  refine va_sld hx hb hX hbl hbA hS hin.2.1 dL_law_413 ?_
  refine L_X7_taken C0 hA hK hN hAD hC hS hl.1 hfit 4000000000000 (xs (i + 1).toNatClampNeg) (xs (i + 2).toNatClampNeg) r9 r9 q'9 ba'9  e7 (fun H2 locs2 hC2 hS2 => ?_)
  refine lv_icmp_eq (tgt := 988) hx hb dL_law_417 (by decide) (fun _ => ?_) (fun c9 => absurd rfl c9)
  exact kk _ _ _ _ _ hC2 ⟨_, _, _, hI⟩ hS2
set_option maxHeartbeats 4000000 in
set_option maxRecDepth 100000 in
theorem LC_least {p : Program} {l : Launch} {e : Env} {s : State} {m : MethodId} {below : List Frame} {meth : Method} {c : Code} {H : Heap} {locs : List Loc} {cells slots : Nat} {Q : State → Prop} {b0 L : Nat} {xs : Nat → Int32} (C0 : lw_At p s m meth c b0 L xs) {A : Nat → Prop} (hA : ∀ q, s.heap.size ≤ q → A q) (hbA : ¬ A b0) {dC : Nat → ClassId} {dI : Nat → Nat → Nat} {cI cJ cF cG : ClassId} {h : Nat} {a ra la fo : Nat → Nat} {ga ya mb pb : Nat → Nat → Nat} {hm : Nat} {am : Nat → Nat} (hK : va_K (dC, dI) vwCl [(cI, .int), (cF, .object "KinForms$Form"), (cG, .array .int), (cJ, .long)] s) (hN : NW s) (hAD : AD A cI cJ cF cG h a ra la fo ga ya mb pb hm am) {b : BS} {F : Nat → FS} {x : MS} (hC : CW (dC, dI) cI cJ cF cG h a ra la fo ga ya mb pb hm am b F x H) (hI : INVb b F x) (hS : va_S A s.heap H locs) {ls : Array Slot} {i : Int32} (hl : lv_has ls 4 [(0, .ref b0), (1, .ref h), (2, .ref hm), (3, .int i)]) (hfit : cells ≤ 600000 ∧ slots ≤ 7302250) (hin : in12 i L) (kk : ∀ (H1 : Heap) (locs1 : List Loc) (b1 : BS) (F1 : Nat → FS) (x1 : MS), CW (dC, dI) cI cJ cF cG h a ra la fo ga ya mb pb hm am b1 F1 x1 H1 → INVb b1 F1 x1 → va_S A s.heap H1 locs1 → W p l e room_1 s m #[Value.ref b0] below meth c H1 locs1 cells slots Q (F0 m 988 ls [])) : W p l e room_1 s m #[Value.ref b0] below meth c H locs cells slots Q (F0 m 422 ls []) := by
  obtain ⟨hx, hb, hr, hml, hown, hts, hX, hbl, hlocks, hgv⟩ := id C0
  obtain ⟨hcn, pn, QF, hI⟩ := hI
  obtain ⟨k, hk12, hfo⟩ := kx (xs (i + 1).toNatClampNeg)
  obtain ⟨r9, tn'9, q'9, ba'9, le'9, tb'9, ro'9, li'9, sz'9, tr'9, e6, e7⟩ := S_least hI (xs (i + 1).toNatClampNeg) hfo x.2.2.1 x.2.2.2.2.2.2.2.2.2.1 x.2.2.2.2.2.2.2.2.2.2.1 x.2.2.2.2.2.2.2.2.2.2.2.1 x.2.2.2.2.2.2.2.2.2.2.2.2.1 x.2.2.2.2.2.2.2.2.2.2.2.2.2.1 x.2.2.2.2.2.2.2.2.2.2.2.2.2.2.1 x.2.2.2.2.2.2.2.2.2.2.2.2.2.2.2.1 x.2.2.2.2.2.2.2.2.2.2.2.2.2.2.2.2.1 (Nat.le_refl 4000000000000)
  refine lv_aload_n hx hb dL_law_422 rfl (lv_at hl 1 rfl) ?_
  refine lv_aload_n hx hb dL_law_423 rfl (lv_at hl 0 rfl) ?_
  refine lv_iload_n hx hb dL_law_424 rfl (lv_at hl 3 rfl) ?_
  refine lv_iconst (v := 1) hx hb dL_law_425 (by decide) ?_
  refine lv_iadd hx hb dL_law_426 ?_
  refine va_sld hx hb hX hbl hbA hS hin.1 dL_law_427 ?_
  refine L_X6_least C0 hA hK hN hAD hC hS hl.1 hfit hk12 (xs (i + 1).toNatClampNeg) hfo r9 e6 ?_
  refine lv_aload_n hx hb dL_law_431 rfl (lv_at hl 2 rfl) ?_
  refine lv_aload_n hx hb dL_law_432 rfl (lv_at hl 0 rfl) ?_
  refine lv_iload_n hx hb dL_law_433 rfl (lv_at hl 3 rfl) ?_
  refine lv_iconst (v := 1) hx hb dL_law_434 (by decide) ?_
  refine lv_iadd hx hb dL_law_435 ?_
  refine va_sld hx hb hX hbl hbA hS hin.1 dL_law_436 ?_
  refine L_X7_least C0 hA hK hN hAD hC hS hl.1 hfit 4000000000000 (xs (i + 1).toNatClampNeg) r9 r9 tn'9 q'9 ba'9 le'9 tb'9 ro'9 li'9 sz'9 tr'9  e7 (fun H2 locs2 hC2 hS2 => ?_)
  refine lv_icmp_eq (tgt := 988) hx hb dL_law_440 (by decide) (fun _ => ?_) (fun c9 => absurd rfl c9)
  exact kk _ _ _ _ _ hC2 ⟨_, _, _, hI⟩ hS2
set_option maxHeartbeats 4000000 in
set_option maxRecDepth 100000 in
theorem LC_same {p : Program} {l : Launch} {e : Env} {s : State} {m : MethodId} {below : List Frame} {meth : Method} {c : Code} {H : Heap} {locs : List Loc} {cells slots : Nat} {Q : State → Prop} {b0 L : Nat} {xs : Nat → Int32} (C0 : lw_At p s m meth c b0 L xs) {A : Nat → Prop} (hA : ∀ q, s.heap.size ≤ q → A q) (hbA : ¬ A b0) {dC : Nat → ClassId} {dI : Nat → Nat → Nat} {cI cJ cF cG : ClassId} {h : Nat} {a ra la fo : Nat → Nat} {ga ya mb pb : Nat → Nat → Nat} {hm : Nat} {am : Nat → Nat} (hK : va_K (dC, dI) vwCl [(cI, .int), (cF, .object "KinForms$Form"), (cG, .array .int), (cJ, .long)] s) (hN : NW s) (hAD : AD A cI cJ cF cG h a ra la fo ga ya mb pb hm am) {b : BS} {F : Nat → FS} {x : MS} (hC : CW (dC, dI) cI cJ cF cG h a ra la fo ga ya mb pb hm am b F x H) (hI : INVb b F x) (hS : va_S A s.heap H locs) {ls : Array Slot} {i : Int32} (hl : lv_has ls 4 [(0, .ref b0), (1, .ref h), (2, .ref hm), (3, .int i)]) (hfit : cells ≤ 600000 ∧ slots ≤ 7302250) (hin : in12 i L) (kk : ∀ (H1 : Heap) (locs1 : List Loc) (b1 : BS) (F1 : Nat → FS) (x1 : MS), CW (dC, dI) cI cJ cF cG h a ra la fo ga ya mb pb hm am b1 F1 x1 H1 → INVb b1 F1 x1 → va_S A s.heap H1 locs1 → W p l e room_1 s m #[Value.ref b0] below meth c H1 locs1 cells slots Q (F0 m 988 ls [])) : W p l e room_1 s m #[Value.ref b0] below meth c H locs cells slots Q (F0 m 445 ls []) := by
  obtain ⟨hx, hb, hr, hml, hown, hts, hX, hbl, hlocks, hgv⟩ := id C0
  obtain ⟨hcn, pn, QF, hI⟩ := hI
  obtain ⟨k, hk12, hfo⟩ := kx (xs (i + 1).toNatClampNeg)
  obtain ⟨j, hj12, hfo2⟩ := kx (xs (i + 2).toNatClampNeg)
  obtain ⟨r9, tn'9, q'9, ba'9, le'9, tb'9, ro'9, li'9, sz'9, tr'9, ot'9, e6, e7⟩ := S_same hI (xs (i + 1).toNatClampNeg) (xs (i + 2).toNatClampNeg) hfo hfo2 x.2.2.1 x.2.2.2.2.2.2.2.2.2.1 x.2.2.2.2.2.2.2.2.2.2.1 x.2.2.2.2.2.2.2.2.2.2.2.1 x.2.2.2.2.2.2.2.2.2.2.2.2.1 x.2.2.2.2.2.2.2.2.2.2.2.2.2.1 x.2.2.2.2.2.2.2.2.2.2.2.2.2.2.1 x.2.2.2.2.2.2.2.2.2.2.2.2.2.2.2.1 x.2.2.2.2.2.2.2.2.2.2.2.2.2.2.2.2.1 x.2.2.2.2.2.2.2.2.2.2.2.2.2.2.2.2.2.1 (Nat.le_refl 4000000000000)
  refine lv_aload_n hx hb dL_law_445 rfl (lv_at hl 1 rfl) ?_
  refine lv_aload_n hx hb dL_law_446 rfl (lv_at hl 0 rfl) ?_
  refine lv_iload_n hx hb dL_law_447 rfl (lv_at hl 3 rfl) ?_
  refine lv_iconst (v := 1) hx hb dL_law_448 (by decide) ?_
  refine lv_iadd hx hb dL_law_449 ?_
  refine va_sld hx hb hX hbl hbA hS hin.1 dL_law_450 ?_
  refine lv_aload_n hx hb dL_law_451 rfl (lv_at hl 0 rfl) ?_
  refine lv_iload_n hx hb dL_law_452 rfl (lv_at hl 3 rfl) ?_
  refine lv_iconst (v := 2) hx hb dL_law_453 (by decide) ?_
  refine lv_iadd hx hb dL_law_454 ?_
  refine va_sld hx hb hX hbl hbA hS hin.2.1 dL_law_455 ?_
  refine L_X6_same C0 hA hK hN hAD hC hS hl.1 hfit 4000000000000 hk12 hj12 (xs (i + 1).toNatClampNeg) (xs (i + 2).toNatClampNeg) hfo hfo2 r9 e6 ?_
  refine lv_aload_n hx hb dL_law_459 rfl (lv_at hl 2 rfl) ?_
  refine lv_aload_n hx hb dL_law_460 rfl (lv_at hl 0 rfl) ?_
  refine lv_iload_n hx hb dL_law_461 rfl (lv_at hl 3 rfl) ?_
  refine lv_iconst (v := 1) hx hb dL_law_462 (by decide) ?_
  refine lv_iadd hx hb dL_law_463 ?_
  refine va_sld hx hb hX hbl hbA hS hin.1 dL_law_464 ?_
  refine lv_aload_n hx hb dL_law_465 rfl (lv_at hl 0 rfl) ?_
  refine lv_iload_n hx hb dL_law_466 rfl (lv_at hl 3 rfl) ?_
  refine lv_iconst (v := 2) hx hb dL_law_467 (by decide) ?_
  refine lv_iadd hx hb dL_law_468 ?_
  refine va_sld hx hb hX hbl hbA hS hin.2.1 dL_law_469 ?_
  refine L_X7_same C0 hA hK hN hAD hC hS hl.1 hfit 4000000000000 (xs (i + 1).toNatClampNeg) (xs (i + 2).toNatClampNeg) r9 r9 tn'9 q'9 ba'9 le'9 tb'9 ro'9 li'9 sz'9 tr'9 ot'9  e7 (fun H2 locs2 hC2 hS2 => ?_)
  refine lv_icmp_eq (tgt := 988) hx hb dL_law_473 (by decide) (fun _ => ?_) (fun c9 => absurd rfl c9)
  exact kk _ _ _ _ _ hC2 ⟨_, _, _, hI⟩ hS2
set_option maxHeartbeats 4000000 in
set_option maxRecDepth 100000 in
theorem LC_table {p : Program} {l : Launch} {e : Env} {s : State} {m : MethodId} {below : List Frame} {meth : Method} {c : Code} {H : Heap} {locs : List Loc} {cells slots : Nat} {Q : State → Prop} {b0 L : Nat} {xs : Nat → Int32} (C0 : lw_At p s m meth c b0 L xs) {A : Nat → Prop} (hA : ∀ q, s.heap.size ≤ q → A q) (hbA : ¬ A b0) {dC : Nat → ClassId} {dI : Nat → Nat → Nat} {cI cJ cF cG : ClassId} {h : Nat} {a ra la fo : Nat → Nat} {ga ya mb pb : Nat → Nat → Nat} {hm : Nat} {am : Nat → Nat} (hK : va_K (dC, dI) vwCl [(cI, .int), (cF, .object "KinForms$Form"), (cG, .array .int), (cJ, .long)] s) (hN : NW s) (hAD : AD A cI cJ cF cG h a ra la fo ga ya mb pb hm am) {b : BS} {F : Nat → FS} {x : MS} (hC : CW (dC, dI) cI cJ cF cG h a ra la fo ga ya mb pb hm am b F x H) (hI : INVb b F x) (hS : va_S A s.heap H locs) {ls : Array Slot} {i : Int32} (hl : lv_has ls 4 [(0, .ref b0), (1, .ref h), (2, .ref hm), (3, .int i)]) (hfit : cells ≤ 600000 ∧ slots ≤ 7302250) (hin : in12 i L) (kk : ∀ (H1 : Heap) (locs1 : List Loc) (b1 : BS) (F1 : Nat → FS) (x1 : MS), CW (dC, dI) cI cJ cF cG h a ra la fo ga ya mb pb hm am b1 F1 x1 H1 → INVb b1 F1 x1 → va_S A s.heap H1 locs1 → W p l e room_1 s m #[Value.ref b0] below meth c H1 locs1 cells slots Q (F0 m 988 ls [])) : W p l e room_1 s m #[Value.ref b0] below meth c H locs cells slots Q (F0 m 478 ls []) := by
  obtain ⟨hx, hb, hr, hml, hown, hts, hX, hbl, hlocks, hgv⟩ := id C0
  obtain ⟨hcn, pn, QF, hI⟩ := hI
  obtain ⟨k, hk12, hfo⟩ := kx (xs (i + 1).toNatClampNeg)
  obtain ⟨r9, tn'9, q'9, ba'9, le'9, tb'9, ro'9, li'9, sz'9, tr'9, e6, e7⟩ := S_table hI (xs (i + 1).toNatClampNeg) (xs (i + 2).toNatClampNeg) hfo x.2.2.1 x.2.2.2.2.2.2.2.2.2.1 x.2.2.2.2.2.2.2.2.2.2.1 x.2.2.2.2.2.2.2.2.2.2.2.1 x.2.2.2.2.2.2.2.2.2.2.2.2.1 x.2.2.2.2.2.2.2.2.2.2.2.2.2.1 x.2.2.2.2.2.2.2.2.2.2.2.2.2.2.1 x.2.2.2.2.2.2.2.2.2.2.2.2.2.2.2.1 x.2.2.2.2.2.2.2.2.2.2.2.2.2.2.2.2.1 (Nat.le_refl 4000000000000)
  refine lv_aload_n hx hb dL_law_478 rfl (lv_at hl 1 rfl) ?_
  refine lv_aload_n hx hb dL_law_479 rfl (lv_at hl 0 rfl) ?_
  refine lv_iload_n hx hb dL_law_480 rfl (lv_at hl 3 rfl) ?_
  refine lv_iconst (v := 1) hx hb dL_law_481 (by decide) ?_
  refine lv_iadd hx hb dL_law_482 ?_
  refine va_sld hx hb hX hbl hbA hS hin.1 dL_law_483 ?_
  refine lv_aload_n hx hb dL_law_484 rfl (lv_at hl 0 rfl) ?_
  refine lv_iload_n hx hb dL_law_485 rfl (lv_at hl 3 rfl) ?_
  refine lv_iconst (v := 2) hx hb dL_law_486 (by decide) ?_
  refine lv_iadd hx hb dL_law_487 ?_
  refine va_sld hx hb hX hbl hbA hS hin.2.1 dL_law_488 ?_
  refine L_X6_table C0 hA hK hN hAD hC hS hl.1 hfit hk12 (xs (i + 1).toNatClampNeg) (xs (i + 2).toNatClampNeg) hfo r9 e6 ?_
  refine lv_aload_n hx hb dL_law_492 rfl (lv_at hl 2 rfl) ?_
  refine lv_aload_n hx hb dL_law_493 rfl (lv_at hl 0 rfl) ?_
  refine lv_iload_n hx hb dL_law_494 rfl (lv_at hl 3 rfl) ?_
  refine lv_iconst (v := 1) hx hb dL_law_495 (by decide) ?_
  refine lv_iadd hx hb dL_law_496 ?_
  refine va_sld hx hb hX hbl hbA hS hin.1 dL_law_497 ?_
  refine lv_aload_n hx hb dL_law_498 rfl (lv_at hl 0 rfl) ?_
  refine lv_iload_n hx hb dL_law_499 rfl (lv_at hl 3 rfl) ?_
  refine lv_iconst (v := 2) hx hb dL_law_500 (by decide) ?_
  refine lv_iadd hx hb dL_law_501 ?_
  refine va_sld hx hb hX hbl hbA hS hin.2.1 dL_law_502 ?_
  refine L_X7_table C0 hA hK hN hAD hC hS hl.1 hfit 4000000000000 (xs (i + 1).toNatClampNeg) (xs (i + 2).toNatClampNeg) r9 r9 tn'9 q'9 ba'9 le'9 tb'9 ro'9 li'9 sz'9 tr'9  e7 (fun H2 locs2 hC2 hS2 => ?_)
  refine lv_icmp_eq (tgt := 988) hx hb dL_law_506 (by decide) (fun _ => ?_) (fun c9 => absurd rfl c9)
  exact kk _ _ _ _ _ hC2 ⟨_, _, _, hI⟩ hS2
set_option maxHeartbeats 4000000 in
set_option maxRecDepth 100000 in
theorem LC_turns {p : Program} {l : Launch} {e : Env} {s : State} {m : MethodId} {below : List Frame} {meth : Method} {c : Code} {H : Heap} {locs : List Loc} {cells slots : Nat} {Q : State → Prop} {b0 L : Nat} {xs : Nat → Int32} (C0 : lw_At p s m meth c b0 L xs) {A : Nat → Prop} (hA : ∀ q, s.heap.size ≤ q → A q) (hbA : ¬ A b0) {dC : Nat → ClassId} {dI : Nat → Nat → Nat} {cI cJ cF cG : ClassId} {h : Nat} {a ra la fo : Nat → Nat} {ga ya mb pb : Nat → Nat → Nat} {hm : Nat} {am : Nat → Nat} (hK : va_K (dC, dI) vwCl [(cI, .int), (cF, .object "KinForms$Form"), (cG, .array .int), (cJ, .long)] s) (hN : NW s) (hAD : AD A cI cJ cF cG h a ra la fo ga ya mb pb hm am) {b : BS} {F : Nat → FS} {x : MS} (hC : CW (dC, dI) cI cJ cF cG h a ra la fo ga ya mb pb hm am b F x H) (hI : INVb b F x) (hS : va_S A s.heap H locs) {ls : Array Slot} {i : Int32} (hl : lv_has ls 4 [(0, .ref b0), (1, .ref h), (2, .ref hm), (3, .int i)]) (hfit : cells ≤ 600000 ∧ slots ≤ 7302250) (hin : in12 i L) (kk : ∀ (H1 : Heap) (locs1 : List Loc) (b1 : BS) (F1 : Nat → FS) (x1 : MS), CW (dC, dI) cI cJ cF cG h a ra la fo ga ya mb pb hm am b1 F1 x1 H1 → INVb b1 F1 x1 → va_S A s.heap H1 locs1 → W p l e room_1 s m #[Value.ref b0] below meth c H1 locs1 cells slots Q (F0 m 988 ls [])) : W p l e room_1 s m #[Value.ref b0] below meth c H locs cells slots Q (F0 m 511 ls []) := by
  obtain ⟨hx, hb, hr, hml, hown, hts, hX, hbl, hlocks, hgv⟩ := id C0
  obtain ⟨hcn, pn, QF, hI⟩ := hI
  obtain ⟨k, hk12, hfo⟩ := kx (xs (i + 1).toNatClampNeg)
  obtain ⟨j, hj12, hfo2⟩ := kx (xs (i + 2).toNatClampNeg)
  obtain ⟨a9, gr'9, td'9, q'9, e6, e7⟩ := S_turns hI (xs (i + 1).toNatClampNeg) (xs (i + 2).toNatClampNeg) (xs (i + 3).toNatClampNeg) (xs (i + 4).toNatClampNeg) (xs (i + 5).toNatClampNeg) (xs (i + 6).toNatClampNeg) (xs (i + 7).toNatClampNeg) (xs (i + 8).toNatClampNeg) (xs (i + 9).toNatClampNeg) (xs (i + 10).toNatClampNeg) (xs (i + 11).toNatClampNeg) hfo hfo2 b.2.2.2.2.2.2.2.2.2.2.2.2.2.2.2.2.2.2.2.2.1 b.2.2.2.2.2.2.2.2.2.2.2.2.2.2.2.2.2.2.2.2.2 x.2.2.2.2.2.2.2.2.2.1 (Nat.le_refl 4000000000000)
  refine lv_aload_n hx hb dL_law_511 rfl (lv_at hl 1 rfl) ?_
  refine lv_aload_n hx hb dL_law_512 rfl (lv_at hl 0 rfl) ?_
  refine lv_iload_n hx hb dL_law_513 rfl (lv_at hl 3 rfl) ?_
  refine lv_iconst (v := 1) hx hb dL_law_514 (by decide) ?_
  refine lv_iadd hx hb dL_law_515 ?_
  refine va_sld hx hb hX hbl hbA hS hin.1 dL_law_516 ?_
  refine lv_aload_n hx hb dL_law_517 rfl (lv_at hl 0 rfl) ?_
  refine lv_iload_n hx hb dL_law_518 rfl (lv_at hl 3 rfl) ?_
  refine lv_iconst (v := 2) hx hb dL_law_519 (by decide) ?_
  refine lv_iadd hx hb dL_law_520 ?_
  refine va_sld hx hb hX hbl hbA hS hin.2.1 dL_law_521 ?_
  refine lv_aload_n hx hb dL_law_522 rfl (lv_at hl 0 rfl) ?_
  refine lv_iload_n hx hb dL_law_523 rfl (lv_at hl 3 rfl) ?_
  refine lv_iconst (v := 3) hx hb dL_law_524 (by decide) ?_
  refine lv_iadd hx hb dL_law_525 ?_
  refine va_sld hx hb hX hbl hbA hS hin.2.2.1 dL_law_526 ?_
  refine lv_aload_n hx hb dL_law_527 rfl (lv_at hl 0 rfl) ?_
  refine lv_iload_n hx hb dL_law_528 rfl (lv_at hl 3 rfl) ?_
  refine lv_iconst (v := 4) hx hb dL_law_529 (by decide) ?_
  refine lv_iadd hx hb dL_law_530 ?_
  refine va_sld hx hb hX hbl hbA hS hin.2.2.2.1 dL_law_531 ?_
  refine lv_aload_n hx hb dL_law_532 rfl (lv_at hl 0 rfl) ?_
  refine lv_iload_n hx hb dL_law_533 rfl (lv_at hl 3 rfl) ?_
  refine lv_iconst (v := 5) hx hb dL_law_534 (by decide) ?_
  refine lv_iadd hx hb dL_law_535 ?_
  refine va_sld hx hb hX hbl hbA hS hin.2.2.2.2.1 dL_law_536 ?_
  refine lv_aload_n hx hb dL_law_537 rfl (lv_at hl 0 rfl) ?_
  refine lv_iload_n hx hb dL_law_538 rfl (lv_at hl 3 rfl) ?_
  refine lv_bipush (v := 6) hx hb dL_law_539 (by decide) ?_
  refine lv_iadd hx hb dL_law_541 ?_
  refine va_sld hx hb hX hbl hbA hS hin.2.2.2.2.2.1 dL_law_542 ?_
  refine lv_aload_n hx hb dL_law_543 rfl (lv_at hl 0 rfl) ?_
  refine lv_iload_n hx hb dL_law_544 rfl (lv_at hl 3 rfl) ?_
  refine lv_bipush (v := 7) hx hb dL_law_545 (by decide) ?_
  refine lv_iadd hx hb dL_law_547 ?_
  refine va_sld hx hb hX hbl hbA hS hin.2.2.2.2.2.2.1 dL_law_548 ?_
  refine lv_aload_n hx hb dL_law_549 rfl (lv_at hl 0 rfl) ?_
  refine lv_iload_n hx hb dL_law_550 rfl (lv_at hl 3 rfl) ?_
  refine lv_bipush (v := 8) hx hb dL_law_551 (by decide) ?_
  refine lv_iadd hx hb dL_law_553 ?_
  refine va_sld hx hb hX hbl hbA hS hin.2.2.2.2.2.2.2.1 dL_law_554 ?_
  refine lv_aload_n hx hb dL_law_555 rfl (lv_at hl 0 rfl) ?_
  refine lv_iload_n hx hb dL_law_556 rfl (lv_at hl 3 rfl) ?_
  refine lv_bipush (v := 9) hx hb dL_law_557 (by decide) ?_
  refine lv_iadd hx hb dL_law_559 ?_
  refine va_sld hx hb hX hbl hbA hS hin.2.2.2.2.2.2.2.2.1 dL_law_560 ?_
  refine lv_aload_n hx hb dL_law_561 rfl (lv_at hl 0 rfl) ?_
  refine lv_iload_n hx hb dL_law_562 rfl (lv_at hl 3 rfl) ?_
  refine lv_bipush (v := 10) hx hb dL_law_563 (by decide) ?_
  refine lv_iadd hx hb dL_law_565 ?_
  refine va_sld hx hb hX hbl hbA hS hin.2.2.2.2.2.2.2.2.2.1 dL_law_566 ?_
  refine lv_aload_n hx hb dL_law_567 rfl (lv_at hl 0 rfl) ?_
  refine lv_iload_n hx hb dL_law_568 rfl (lv_at hl 3 rfl) ?_
  refine lv_bipush (v := 11) hx hb dL_law_569 (by decide) ?_
  refine lv_iadd hx hb dL_law_571 ?_
  refine va_sld hx hb hX hbl hbA hS hin.2.2.2.2.2.2.2.2.2.2 dL_law_572 ?_
  by_cases hkj : k = j
  · subst hkj
    refine L_X6_turnsB C0 hA hK hN hAD hC hS hl.1 hfit 4000000000000 hk12 (xs (i + 1).toNatClampNeg) (xs (i + 2).toNatClampNeg) (xs (i + 3).toNatClampNeg) (xs (i + 4).toNatClampNeg) (xs (i + 5).toNatClampNeg) (xs (i + 6).toNatClampNeg) (xs (i + 7).toNatClampNeg) (xs (i + 8).toNatClampNeg) (xs (i + 9).toNatClampNeg) (xs (i + 10).toNatClampNeg) (xs (i + 11).toNatClampNeg) hfo hfo2 a9 gr'9 td'9 ((turnsB_eq _ _ _ _ _ _ _ _ _ _ _ _ _ _ _ _).trans e6) (fun H1 locs1 hC1 hS1 => ?_)
    refine lv_aload_n hx hb dL_law_576 rfl (lv_at hl 2 rfl) ?_
    refine lv_aload_n hx hb dL_law_577 rfl (lv_at hl 0 rfl) ?_
    refine lv_iload_n hx hb dL_law_578 rfl (lv_at hl 3 rfl) ?_
    refine lv_iconst (v := 1) hx hb dL_law_579 (by decide) ?_
    refine lv_iadd hx hb dL_law_580 ?_
    refine va_sld hx hb hX hbl hbA hS1 hin.1 dL_law_581 ?_
    refine lv_aload_n hx hb dL_law_582 rfl (lv_at hl 0 rfl) ?_
    refine lv_iload_n hx hb dL_law_583 rfl (lv_at hl 3 rfl) ?_
    refine lv_iconst (v := 2) hx hb dL_law_584 (by decide) ?_
    refine lv_iadd hx hb dL_law_585 ?_
    refine va_sld hx hb hX hbl hbA hS1 hin.2.1 dL_law_586 ?_
    refine lv_aload_n hx hb dL_law_587 rfl (lv_at hl 0 rfl) ?_
    refine lv_iload_n hx hb dL_law_588 rfl (lv_at hl 3 rfl) ?_
    refine lv_iconst (v := 3) hx hb dL_law_589 (by decide) ?_
    refine lv_iadd hx hb dL_law_590 ?_
    refine va_sld hx hb hX hbl hbA hS1 hin.2.2.1 dL_law_591 ?_
    refine lv_aload_n hx hb dL_law_592 rfl (lv_at hl 0 rfl) ?_
    refine lv_iload_n hx hb dL_law_593 rfl (lv_at hl 3 rfl) ?_
    refine lv_iconst (v := 4) hx hb dL_law_594 (by decide) ?_
    refine lv_iadd hx hb dL_law_595 ?_
    refine va_sld hx hb hX hbl hbA hS1 hin.2.2.2.1 dL_law_596 ?_
    refine lv_aload_n hx hb dL_law_597 rfl (lv_at hl 0 rfl) ?_
    refine lv_iload_n hx hb dL_law_598 rfl (lv_at hl 3 rfl) ?_
    refine lv_iconst (v := 5) hx hb dL_law_599 (by decide) ?_
    refine lv_iadd hx hb dL_law_600 ?_
    refine va_sld hx hb hX hbl hbA hS1 hin.2.2.2.2.1 dL_law_601 ?_
    refine lv_aload_n hx hb dL_law_602 rfl (lv_at hl 0 rfl) ?_
    refine lv_iload_n hx hb dL_law_603 rfl (lv_at hl 3 rfl) ?_
    refine lv_bipush (v := 6) hx hb dL_law_604 (by decide) ?_
    refine lv_iadd hx hb dL_law_606 ?_
    refine va_sld hx hb hX hbl hbA hS1 hin.2.2.2.2.2.1 dL_law_607 ?_
    refine lv_aload_n hx hb dL_law_608 rfl (lv_at hl 0 rfl) ?_
    refine lv_iload_n hx hb dL_law_609 rfl (lv_at hl 3 rfl) ?_
    refine lv_bipush (v := 7) hx hb dL_law_610 (by decide) ?_
    refine lv_iadd hx hb dL_law_612 ?_
    refine va_sld hx hb hX hbl hbA hS1 hin.2.2.2.2.2.2.1 dL_law_613 ?_
    refine lv_aload_n hx hb dL_law_614 rfl (lv_at hl 0 rfl) ?_
    refine lv_iload_n hx hb dL_law_615 rfl (lv_at hl 3 rfl) ?_
    refine lv_bipush (v := 8) hx hb dL_law_616 (by decide) ?_
    refine lv_iadd hx hb dL_law_618 ?_
    refine va_sld hx hb hX hbl hbA hS1 hin.2.2.2.2.2.2.2.1 dL_law_619 ?_
    refine lv_aload_n hx hb dL_law_620 rfl (lv_at hl 0 rfl) ?_
    refine lv_iload_n hx hb dL_law_621 rfl (lv_at hl 3 rfl) ?_
    refine lv_bipush (v := 9) hx hb dL_law_622 (by decide) ?_
    refine lv_iadd hx hb dL_law_624 ?_
    refine va_sld hx hb hX hbl hbA hS1 hin.2.2.2.2.2.2.2.2.1 dL_law_625 ?_
    refine lv_aload_n hx hb dL_law_626 rfl (lv_at hl 0 rfl) ?_
    refine lv_iload_n hx hb dL_law_627 rfl (lv_at hl 3 rfl) ?_
    refine lv_bipush (v := 10) hx hb dL_law_628 (by decide) ?_
    refine lv_iadd hx hb dL_law_630 ?_
    refine va_sld hx hb hX hbl hbA hS1 hin.2.2.2.2.2.2.2.2.2.1 dL_law_631 ?_
    refine lv_aload_n hx hb dL_law_632 rfl (lv_at hl 0 rfl) ?_
    refine lv_iload_n hx hb dL_law_633 rfl (lv_at hl 3 rfl) ?_
    refine lv_bipush (v := 11) hx hb dL_law_634 (by decide) ?_
    refine lv_iadd hx hb dL_law_636 ?_
    refine va_sld hx hb hX hbl hbA hS1 hin.2.2.2.2.2.2.2.2.2.2 dL_law_637 ?_
    refine L_X7_turns C0 hA hK hN hAD hC1 hS1 hl.1 hfit 4000000000000 (xs (i + 1).toNatClampNeg) (xs (i + 2).toNatClampNeg) (xs (i + 3).toNatClampNeg) (xs (i + 4).toNatClampNeg) (xs (i + 5).toNatClampNeg) (xs (i + 6).toNatClampNeg) (xs (i + 7).toNatClampNeg) (xs (i + 8).toNatClampNeg) (xs (i + 9).toNatClampNeg) (xs (i + 10).toNatClampNeg) (xs (i + 11).toNatClampNeg) a9 a9 q'9  e7 (fun H2 locs2 hC2 hS2 => ?_)
    refine lv_icmp_eq (tgt := 988) hx hb dL_law_641 (by decide) (fun _ => ?_) (fun c9 => absurd rfl c9)
    exact kk _ _ _ _ _ hC2 ⟨_, _, _, (va_up_id F k).symm ▸ hI⟩ hS2
  · refine L_X6_turns C0 hA hK hN hAD hC hS hl.1 hfit 4000000000000 hk12 hj12 hkj (xs (i + 1).toNatClampNeg) (xs (i + 2).toNatClampNeg) (xs (i + 3).toNatClampNeg) (xs (i + 4).toNatClampNeg) (xs (i + 5).toNatClampNeg) (xs (i + 6).toNatClampNeg) (xs (i + 7).toNatClampNeg) (xs (i + 8).toNatClampNeg) (xs (i + 9).toNatClampNeg) (xs (i + 10).toNatClampNeg) (xs (i + 11).toNatClampNeg) hfo hfo2 a9 gr'9 td'9 e6 (fun H1 locs1 hC1 hS1 => ?_)
    refine lv_aload_n hx hb dL_law_576 rfl (lv_at hl 2 rfl) ?_
    refine lv_aload_n hx hb dL_law_577 rfl (lv_at hl 0 rfl) ?_
    refine lv_iload_n hx hb dL_law_578 rfl (lv_at hl 3 rfl) ?_
    refine lv_iconst (v := 1) hx hb dL_law_579 (by decide) ?_
    refine lv_iadd hx hb dL_law_580 ?_
    refine va_sld hx hb hX hbl hbA hS1 hin.1 dL_law_581 ?_
    refine lv_aload_n hx hb dL_law_582 rfl (lv_at hl 0 rfl) ?_
    refine lv_iload_n hx hb dL_law_583 rfl (lv_at hl 3 rfl) ?_
    refine lv_iconst (v := 2) hx hb dL_law_584 (by decide) ?_
    refine lv_iadd hx hb dL_law_585 ?_
    refine va_sld hx hb hX hbl hbA hS1 hin.2.1 dL_law_586 ?_
    refine lv_aload_n hx hb dL_law_587 rfl (lv_at hl 0 rfl) ?_
    refine lv_iload_n hx hb dL_law_588 rfl (lv_at hl 3 rfl) ?_
    refine lv_iconst (v := 3) hx hb dL_law_589 (by decide) ?_
    refine lv_iadd hx hb dL_law_590 ?_
    refine va_sld hx hb hX hbl hbA hS1 hin.2.2.1 dL_law_591 ?_
    refine lv_aload_n hx hb dL_law_592 rfl (lv_at hl 0 rfl) ?_
    refine lv_iload_n hx hb dL_law_593 rfl (lv_at hl 3 rfl) ?_
    refine lv_iconst (v := 4) hx hb dL_law_594 (by decide) ?_
    refine lv_iadd hx hb dL_law_595 ?_
    refine va_sld hx hb hX hbl hbA hS1 hin.2.2.2.1 dL_law_596 ?_
    refine lv_aload_n hx hb dL_law_597 rfl (lv_at hl 0 rfl) ?_
    refine lv_iload_n hx hb dL_law_598 rfl (lv_at hl 3 rfl) ?_
    refine lv_iconst (v := 5) hx hb dL_law_599 (by decide) ?_
    refine lv_iadd hx hb dL_law_600 ?_
    refine va_sld hx hb hX hbl hbA hS1 hin.2.2.2.2.1 dL_law_601 ?_
    refine lv_aload_n hx hb dL_law_602 rfl (lv_at hl 0 rfl) ?_
    refine lv_iload_n hx hb dL_law_603 rfl (lv_at hl 3 rfl) ?_
    refine lv_bipush (v := 6) hx hb dL_law_604 (by decide) ?_
    refine lv_iadd hx hb dL_law_606 ?_
    refine va_sld hx hb hX hbl hbA hS1 hin.2.2.2.2.2.1 dL_law_607 ?_
    refine lv_aload_n hx hb dL_law_608 rfl (lv_at hl 0 rfl) ?_
    refine lv_iload_n hx hb dL_law_609 rfl (lv_at hl 3 rfl) ?_
    refine lv_bipush (v := 7) hx hb dL_law_610 (by decide) ?_
    refine lv_iadd hx hb dL_law_612 ?_
    refine va_sld hx hb hX hbl hbA hS1 hin.2.2.2.2.2.2.1 dL_law_613 ?_
    refine lv_aload_n hx hb dL_law_614 rfl (lv_at hl 0 rfl) ?_
    refine lv_iload_n hx hb dL_law_615 rfl (lv_at hl 3 rfl) ?_
    refine lv_bipush (v := 8) hx hb dL_law_616 (by decide) ?_
    refine lv_iadd hx hb dL_law_618 ?_
    refine va_sld hx hb hX hbl hbA hS1 hin.2.2.2.2.2.2.2.1 dL_law_619 ?_
    refine lv_aload_n hx hb dL_law_620 rfl (lv_at hl 0 rfl) ?_
    refine lv_iload_n hx hb dL_law_621 rfl (lv_at hl 3 rfl) ?_
    refine lv_bipush (v := 9) hx hb dL_law_622 (by decide) ?_
    refine lv_iadd hx hb dL_law_624 ?_
    refine va_sld hx hb hX hbl hbA hS1 hin.2.2.2.2.2.2.2.2.1 dL_law_625 ?_
    refine lv_aload_n hx hb dL_law_626 rfl (lv_at hl 0 rfl) ?_
    refine lv_iload_n hx hb dL_law_627 rfl (lv_at hl 3 rfl) ?_
    refine lv_bipush (v := 10) hx hb dL_law_628 (by decide) ?_
    refine lv_iadd hx hb dL_law_630 ?_
    refine va_sld hx hb hX hbl hbA hS1 hin.2.2.2.2.2.2.2.2.2.1 dL_law_631 ?_
    refine lv_aload_n hx hb dL_law_632 rfl (lv_at hl 0 rfl) ?_
    refine lv_iload_n hx hb dL_law_633 rfl (lv_at hl 3 rfl) ?_
    refine lv_bipush (v := 11) hx hb dL_law_634 (by decide) ?_
    refine lv_iadd hx hb dL_law_636 ?_
    refine va_sld hx hb hX hbl hbA hS1 hin.2.2.2.2.2.2.2.2.2.2 dL_law_637 ?_
    refine L_X7_turns C0 hA hK hN hAD hC1 hS1 hl.1 hfit 4000000000000 (xs (i + 1).toNatClampNeg) (xs (i + 2).toNatClampNeg) (xs (i + 3).toNatClampNeg) (xs (i + 4).toNatClampNeg) (xs (i + 5).toNatClampNeg) (xs (i + 6).toNatClampNeg) (xs (i + 7).toNatClampNeg) (xs (i + 8).toNatClampNeg) (xs (i + 9).toNatClampNeg) (xs (i + 10).toNatClampNeg) (xs (i + 11).toNatClampNeg) a9 a9 q'9  e7 (fun H2 locs2 hC2 hS2 => ?_)
    refine lv_icmp_eq (tgt := 988) hx hb dL_law_641 (by decide) (fun _ => ?_) (fun c9 => absurd rfl c9)
    exact kk _ _ _ _ _ hC2 ⟨_, _, _, (va_up_id F k).symm ▸ hI⟩ hS2
set_option maxHeartbeats 4000000 in
set_option maxRecDepth 100000 in
theorem LC_count {p : Program} {l : Launch} {e : Env} {s : State} {m : MethodId} {below : List Frame} {meth : Method} {c : Code} {H : Heap} {locs : List Loc} {cells slots : Nat} {Q : State → Prop} {b0 L : Nat} {xs : Nat → Int32} (C0 : lw_At p s m meth c b0 L xs) {A : Nat → Prop} (hA : ∀ q, s.heap.size ≤ q → A q) (hbA : ¬ A b0) {dC : Nat → ClassId} {dI : Nat → Nat → Nat} {cI cJ cF cG : ClassId} {h : Nat} {a ra la fo : Nat → Nat} {ga ya mb pb : Nat → Nat → Nat} {hm : Nat} {am : Nat → Nat} (hK : va_K (dC, dI) vwCl [(cI, .int), (cF, .object "KinForms$Form"), (cG, .array .int), (cJ, .long)] s) (hN : NW s) (hAD : AD A cI cJ cF cG h a ra la fo ga ya mb pb hm am) {b : BS} {F : Nat → FS} {x : MS} (hC : CW (dC, dI) cI cJ cF cG h a ra la fo ga ya mb pb hm am b F x H) (hI : INVb b F x) (hS : va_S A s.heap H locs) {ls : Array Slot} {i : Int32} (hl : lv_has ls 4 [(0, .ref b0), (1, .ref h), (2, .ref hm), (3, .int i)]) (hfit : cells ≤ 600000 ∧ slots ≤ 7302250) (hin : in12 i L) (kk : ∀ (H1 : Heap) (locs1 : List Loc) (b1 : BS) (F1 : Nat → FS) (x1 : MS), CW (dC, dI) cI cJ cF cG h a ra la fo ga ya mb pb hm am b1 F1 x1 H1 → INVb b1 F1 x1 → va_S A s.heap H1 locs1 → W p l e room_1 s m #[Value.ref b0] below meth c H1 locs1 cells slots Q (F0 m 988 ls [])) : W p l e room_1 s m #[Value.ref b0] below meth c H locs cells slots Q (F0 m 646 ls []) := by
  obtain ⟨hx, hb, hr, hml, hown, hts, hX, hbl, hlocks, hgv⟩ := id C0
  obtain ⟨hcn, pn, QF, hI⟩ := hI
  have hk12 : (0 : Nat) < 12 := by decide
  obtain ⟨ro9, e6, e7⟩ := S_count hI
  refine lv_aload_n hx hb dL_law_646 rfl (lv_at hl 1 rfl) ?_
  refine L_X6_count C0 hA hK hN hAD hC hS hl.1 hfit (k := 0) hk12  ro9 e6 ?_
  refine lv_aload_n hx hb dL_law_650 rfl (lv_at hl 2 rfl) ?_
  refine L_X7_count C0 hA hK hN hAD hC hS hl.1 hfit  ro9 ro9  e7 ?_
  refine lv_icmp_eq (tgt := 988) hx hb dL_law_654 (by decide) (fun _ => ?_) (fun c9 => absurd rfl c9)
  exact kk _ _ _ _ _ hC ⟨_, _, _, hI⟩ hS
set_option maxHeartbeats 4000000 in
set_option maxRecDepth 100000 in
theorem LC_prime {p : Program} {l : Launch} {e : Env} {s : State} {m : MethodId} {below : List Frame} {meth : Method} {c : Code} {H : Heap} {locs : List Loc} {cells slots : Nat} {Q : State → Prop} {b0 L : Nat} {xs : Nat → Int32} (C0 : lw_At p s m meth c b0 L xs) {A : Nat → Prop} (hA : ∀ q, s.heap.size ≤ q → A q) (hbA : ¬ A b0) {dC : Nat → ClassId} {dI : Nat → Nat → Nat} {cI cJ cF cG : ClassId} {h : Nat} {a ra la fo : Nat → Nat} {ga ya mb pb : Nat → Nat → Nat} {hm : Nat} {am : Nat → Nat} (hK : va_K (dC, dI) vwCl [(cI, .int), (cF, .object "KinForms$Form"), (cG, .array .int), (cJ, .long)] s) (hN : NW s) (hAD : AD A cI cJ cF cG h a ra la fo ga ya mb pb hm am) {b : BS} {F : Nat → FS} {x : MS} (hC : CW (dC, dI) cI cJ cF cG h a ra la fo ga ya mb pb hm am b F x H) (hI : INVb b F x) (hS : va_S A s.heap H locs) {ls : Array Slot} {i : Int32} (hl : lv_has ls 4 [(0, .ref b0), (1, .ref h), (2, .ref hm), (3, .int i)]) (hfit : cells ≤ 600000 ∧ slots ≤ 7302250) (hin : in12 i L) (kk : ∀ (H1 : Heap) (locs1 : List Loc) (b1 : BS) (F1 : Nat → FS) (x1 : MS), CW (dC, dI) cI cJ cF cG h a ra la fo ga ya mb pb hm am b1 F1 x1 H1 → INVb b1 F1 x1 → va_S A s.heap H1 locs1 → W p l e room_1 s m #[Value.ref b0] below meth c H1 locs1 cells slots Q (F0 m 988 ls [])) : W p l e room_1 s m #[Value.ref b0] below meth c H locs cells slots Q (F0 m 659 ls []) := by
  obtain ⟨hx, hb, hr, hml, hown, hts, hX, hbl, hlocks, hgv⟩ := id C0
  obtain ⟨hcn, pn, QF, hI⟩ := hI
  have hk12 : (0 : Nat) < 12 := by decide
  obtain ⟨ro9, o9, p'9, e6, e7, hI9⟩ := S_prime hI (xs (i + 1).toNatClampNeg)
  refine lv_aload_n hx hb dL_law_659 rfl (lv_at hl 1 rfl) ?_
  refine lv_aload_n hx hb dL_law_660 rfl (lv_at hl 0 rfl) ?_
  refine lv_iload_n hx hb dL_law_661 rfl (lv_at hl 3 rfl) ?_
  refine lv_iconst (v := 1) hx hb dL_law_662 (by decide) ?_
  refine lv_iadd hx hb dL_law_663 ?_
  refine va_sld hx hb hX hbl hbA hS hin.1 dL_law_664 ?_
  refine L_X6_prime C0 hA hK hN hAD hC hS hl.1 hfit (k := 0) hk12 (xs (i + 1).toNatClampNeg) ro9 o9 e6 (fun H1 locs1 hC1 hS1 => ?_)
  refine lv_aload_n hx hb dL_law_668 rfl (lv_at hl 2 rfl) ?_
  refine lv_aload_n hx hb dL_law_669 rfl (lv_at hl 0 rfl) ?_
  refine lv_iload_n hx hb dL_law_670 rfl (lv_at hl 3 rfl) ?_
  refine lv_iconst (v := 1) hx hb dL_law_671 (by decide) ?_
  refine lv_iadd hx hb dL_law_672 ?_
  refine va_sld hx hb hX hbl hbA hS1 hin.1 dL_law_673 ?_
  refine L_X7_prime C0 hA hK hN hAD hC1 hS1 hl.1 hfit (xs (i + 1).toNatClampNeg) ro9 ro9 o9  e7 (fun H2 locs2 hC2 hS2 => ?_)
  refine lv_icmp_eq (tgt := 988) hx hb dL_law_677 (by decide) (fun _ => ?_) (fun c9 => absurd rfl c9)
  exact kk _ _ _ _ _ hC2 ⟨_, _, _, (va_up_id F 0).symm ▸ hI9⟩ hS2
set_option maxHeartbeats 4000000 in
set_option maxRecDepth 100000 in
theorem LC_line {p : Program} {l : Launch} {e : Env} {s : State} {m : MethodId} {below : List Frame} {meth : Method} {c : Code} {H : Heap} {locs : List Loc} {cells slots : Nat} {Q : State → Prop} {b0 L : Nat} {xs : Nat → Int32} (C0 : lw_At p s m meth c b0 L xs) {A : Nat → Prop} (hA : ∀ q, s.heap.size ≤ q → A q) (hbA : ¬ A b0) {dC : Nat → ClassId} {dI : Nat → Nat → Nat} {cI cJ cF cG : ClassId} {h : Nat} {a ra la fo : Nat → Nat} {ga ya mb pb : Nat → Nat → Nat} {hm : Nat} {am : Nat → Nat} (hK : va_K (dC, dI) vwCl [(cI, .int), (cF, .object "KinForms$Form"), (cG, .array .int), (cJ, .long)] s) (hN : NW s) (hAD : AD A cI cJ cF cG h a ra la fo ga ya mb pb hm am) {b : BS} {F : Nat → FS} {x : MS} (hC : CW (dC, dI) cI cJ cF cG h a ra la fo ga ya mb pb hm am b F x H) (hI : INVb b F x) (hS : va_S A s.heap H locs) {ls : Array Slot} {i : Int32} (hl : lv_has ls 4 [(0, .ref b0), (1, .ref h), (2, .ref hm), (3, .int i)]) (hfit : cells ≤ 600000 ∧ slots ≤ 7302250) (hin : in12 i L) (kk : ∀ (H1 : Heap) (locs1 : List Loc) (b1 : BS) (F1 : Nat → FS) (x1 : MS), CW (dC, dI) cI cJ cF cG h a ra la fo ga ya mb pb hm am b1 F1 x1 H1 → INVb b1 F1 x1 → va_S A s.heap H1 locs1 → W p l e room_1 s m #[Value.ref b0] below meth c H1 locs1 cells slots Q (F0 m 988 ls [])) : W p l e room_1 s m #[Value.ref b0] below meth c H locs cells slots Q (F0 m 682 ls []) := by
  obtain ⟨hx, hb, hr, hml, hown, hts, hX, hbl, hlocks, hgv⟩ := id C0
  obtain ⟨hcn, pn, QF, hI⟩ := hI
  obtain ⟨k, hk12, hfo⟩ := kx (xs (i + 1).toNatClampNeg)
  obtain ⟨a9, fo'9, lp'9, lt'9, lu'9, six'9, all'9, w'9, mt'9, mu'9, q'9, ln'9, e6, e7⟩ := S_line hI (xs (i + 1).toNatClampNeg) (xs (i + 2).toNatClampNeg) (xs (i + 3).toNatClampNeg) hfo b.2.2.2.2.2.2.2.2.2.2.1 b.2.2.2.2.2.2.2.2.2.2.2.1 b.2.2.2.2.2.2.2.2.2.2.2.2.1 b.2.2.2.2.2.2.2.2.2.2.2.2.2.1 b.2.2.2.2.2.2.2.2.2.2.2.2.2.2.1 b.2.2.2.2.2.2.2.2.2.2.2.2.2.2.2.1 b.2.2.2.2.2.2.2.2.2.2.2.2.2.2.2.2.1 x.2.2.2.1 x.2.2.2.2.1 x.2.2.2.2.2.2.2.2.2.1 x.2.2.2.2.2.2.2.2.2.2.2.2.2.2.2.2.2.2.1 (Nat.le_refl 4000000000000)
  refine lv_aload_n hx hb dL_law_682 rfl (lv_at hl 1 rfl) ?_
  refine lv_aload_n hx hb dL_law_683 rfl (lv_at hl 0 rfl) ?_
  refine lv_iload_n hx hb dL_law_684 rfl (lv_at hl 3 rfl) ?_
  refine lv_iconst (v := 1) hx hb dL_law_685 (by decide) ?_
  refine lv_iadd hx hb dL_law_686 ?_
  refine va_sld hx hb hX hbl hbA hS hin.1 dL_law_687 ?_
  refine lv_aload_n hx hb dL_law_688 rfl (lv_at hl 0 rfl) ?_
  refine lv_iload_n hx hb dL_law_689 rfl (lv_at hl 3 rfl) ?_
  refine lv_iconst (v := 2) hx hb dL_law_690 (by decide) ?_
  refine lv_iadd hx hb dL_law_691 ?_
  refine va_sld hx hb hX hbl hbA hS hin.2.1 dL_law_692 ?_
  refine lv_aload_n hx hb dL_law_693 rfl (lv_at hl 0 rfl) ?_
  refine lv_iload_n hx hb dL_law_694 rfl (lv_at hl 3 rfl) ?_
  refine lv_iconst (v := 3) hx hb dL_law_695 (by decide) ?_
  refine lv_iadd hx hb dL_law_696 ?_
  refine va_sld hx hb hX hbl hbA hS hin.2.2.1 dL_law_697 ?_
  refine L_X6_line C0 hA hK hN hAD hC hS hl.1 hfit 4000000000000 hk12 (xs (i + 1).toNatClampNeg) (xs (i + 2).toNatClampNeg) (xs (i + 3).toNatClampNeg) hfo a9 fo'9 lp'9 lt'9 lu'9 six'9 all'9 w'9 e6 (fun H1 locs1 hC1 hS1 => ?_)
  refine lv_aload_n hx hb dL_law_701 rfl (lv_at hl 2 rfl) ?_
  refine lv_aload_n hx hb dL_law_702 rfl (lv_at hl 0 rfl) ?_
  refine lv_iload_n hx hb dL_law_703 rfl (lv_at hl 3 rfl) ?_
  refine lv_iconst (v := 1) hx hb dL_law_704 (by decide) ?_
  refine lv_iadd hx hb dL_law_705 ?_
  refine va_sld hx hb hX hbl hbA hS1 hin.1 dL_law_706 ?_
  refine lv_aload_n hx hb dL_law_707 rfl (lv_at hl 0 rfl) ?_
  refine lv_iload_n hx hb dL_law_708 rfl (lv_at hl 3 rfl) ?_
  refine lv_iconst (v := 2) hx hb dL_law_709 (by decide) ?_
  refine lv_iadd hx hb dL_law_710 ?_
  refine va_sld hx hb hX hbl hbA hS1 hin.2.1 dL_law_711 ?_
  refine lv_aload_n hx hb dL_law_712 rfl (lv_at hl 0 rfl) ?_
  refine lv_iload_n hx hb dL_law_713 rfl (lv_at hl 3 rfl) ?_
  refine lv_iconst (v := 3) hx hb dL_law_714 (by decide) ?_
  refine lv_iadd hx hb dL_law_715 ?_
  refine va_sld hx hb hX hbl hbA hS1 hin.2.2.1 dL_law_716 ?_
  refine L_X7_line C0 hA hK hN hAD hC1 hS1 hl.1 hfit 4000000000000 (xs (i + 1).toNatClampNeg) (xs (i + 2).toNatClampNeg) (xs (i + 3).toNatClampNeg) a9 a9 mt'9 mu'9 q'9 ln'9  e7 (fun H2 locs2 hC2 hS2 => ?_)
  refine lv_icmp_eq (tgt := 988) hx hb dL_law_720 (by decide) (fun _ => ?_) (fun c9 => absurd rfl c9)
  exact kk _ _ _ _ _ hC2 ⟨_, _, _, (va_up_id F k).symm ▸ hI⟩ hS2
set_option maxHeartbeats 4000000 in
set_option maxRecDepth 100000 in
theorem LC_neighbour {p : Program} {l : Launch} {e : Env} {s : State} {m : MethodId} {below : List Frame} {meth : Method} {c : Code} {H : Heap} {locs : List Loc} {cells slots : Nat} {Q : State → Prop} {b0 L : Nat} {xs : Nat → Int32} (C0 : lw_At p s m meth c b0 L xs) {A : Nat → Prop} (hA : ∀ q, s.heap.size ≤ q → A q) (hbA : ¬ A b0) {dC : Nat → ClassId} {dI : Nat → Nat → Nat} {cI cJ cF cG : ClassId} {h : Nat} {a ra la fo : Nat → Nat} {ga ya mb pb : Nat → Nat → Nat} {hm : Nat} {am : Nat → Nat} (hK : va_K (dC, dI) vwCl [(cI, .int), (cF, .object "KinForms$Form"), (cG, .array .int), (cJ, .long)] s) (hN : NW s) (hAD : AD A cI cJ cF cG h a ra la fo ga ya mb pb hm am) {b : BS} {F : Nat → FS} {x : MS} (hC : CW (dC, dI) cI cJ cF cG h a ra la fo ga ya mb pb hm am b F x H) (hI : INVb b F x) (hS : va_S A s.heap H locs) {ls : Array Slot} {i : Int32} (hl : lv_has ls 4 [(0, .ref b0), (1, .ref h), (2, .ref hm), (3, .int i)]) (hfit : cells ≤ 600000 ∧ slots ≤ 7302250) (hin : in12 i L) (kk : ∀ (H1 : Heap) (locs1 : List Loc) (b1 : BS) (F1 : Nat → FS) (x1 : MS), CW (dC, dI) cI cJ cF cG h a ra la fo ga ya mb pb hm am b1 F1 x1 H1 → INVb b1 F1 x1 → va_S A s.heap H1 locs1 → W p l e room_1 s m #[Value.ref b0] below meth c H1 locs1 cells slots Q (F0 m 988 ls [])) : W p l e room_1 s m #[Value.ref b0] below meth c H locs cells slots Q (F0 m 725 ls []) := by
  obtain ⟨hx, hb, hr, hml, hown, hts, hX, hbl, hlocks, hgv⟩ := id C0
  obtain ⟨hcn, pn, QF, hI⟩ := hI
  obtain ⟨k, hk12, hfo⟩ := kx (xs (i + 1).toNatClampNeg)
  obtain ⟨a9, fo'9, lp'9, lt'9, lu'9, six'9, all'9, w'9, b'9, c'9, ti'9, s'9, r'9, wo'9, im'9, be'9, br'9, tn'9, mt'9, mu'9, q'9, ba'9, le'9, tb'9, ro'9, li'9, sz'9, tr'9, ln'9, mk'9, tc'9, md'9, e6, e7⟩ := S_neighbour hI (xs (i + 1).toNatClampNeg) (xs (i + 2).toNatClampNeg) (xs (i + 3).toNatClampNeg) hfo b.2.2.2.2.2.2.2.2.2.2.1 b.2.2.2.2.2.2.2.2.2.2.2.1 b.2.2.2.2.2.2.2.2.2.2.2.2.1 b.2.2.2.2.2.2.2.2.2.2.2.2.2.1 b.2.2.2.2.2.2.2.2.2.2.2.2.2.2.1 b.2.2.2.2.2.2.2.2.2.2.2.2.2.2.2.1 b.2.2.2.2.2.2.2.2.2.2.2.2.2.2.2.2.1 b.2.2.2.2.2.2.2.2.2.2.2.2.2.2.2.2.2.1 b.2.2.2.2.2.2.2.2.2.2.2.2.2.2.2.2.2.2.1 b.2.2.1 b.2.2.2.1 b.2.2.2.2.1 b.2.2.2.2.2.2.1 b.2.2.2.2.2.2.2.1 b.2.2.2.2.2.2.2.2.1 b.2.2.2.2.2.2.2.2.2.1 x.2.2.1 x.2.2.2.1 x.2.2.2.2.1 x.2.2.2.2.2.2.2.2.2.1 x.2.2.2.2.2.2.2.2.2.2.1 x.2.2.2.2.2.2.2.2.2.2.2.1 x.2.2.2.2.2.2.2.2.2.2.2.2.1 x.2.2.2.2.2.2.2.2.2.2.2.2.2.1 x.2.2.2.2.2.2.2.2.2.2.2.2.2.2.1 x.2.2.2.2.2.2.2.2.2.2.2.2.2.2.2.1 x.2.2.2.2.2.2.2.2.2.2.2.2.2.2.2.2.1 x.2.2.2.2.2.2.2.2.2.2.2.2.2.2.2.2.2.2.1 x.2.2.2.2.2.2.2.2.2.2.2.2.2.2.2.2.2.2.2.1 x.2.2.2.2.2.2.2.2.2.2.2.2.2.2.2.2.2.2.2.2.1 x.2.2.2.2.2.2.2.2.2.2.2.2.2.2.2.2.2.2.2.2.2.1 (Nat.le_refl 4000000000000)
  refine lv_aload_n hx hb dL_law_725 rfl (lv_at hl 1 rfl) ?_
  refine lv_aload_n hx hb dL_law_726 rfl (lv_at hl 0 rfl) ?_
  refine lv_iload_n hx hb dL_law_727 rfl (lv_at hl 3 rfl) ?_
  refine lv_iconst (v := 1) hx hb dL_law_728 (by decide) ?_
  refine lv_iadd hx hb dL_law_729 ?_
  refine va_sld hx hb hX hbl hbA hS hin.1 dL_law_730 ?_
  refine lv_aload_n hx hb dL_law_731 rfl (lv_at hl 0 rfl) ?_
  refine lv_iload_n hx hb dL_law_732 rfl (lv_at hl 3 rfl) ?_
  refine lv_iconst (v := 2) hx hb dL_law_733 (by decide) ?_
  refine lv_iadd hx hb dL_law_734 ?_
  refine va_sld hx hb hX hbl hbA hS hin.2.1 dL_law_735 ?_
  refine lv_aload_n hx hb dL_law_736 rfl (lv_at hl 0 rfl) ?_
  refine lv_iload_n hx hb dL_law_737 rfl (lv_at hl 3 rfl) ?_
  refine lv_iconst (v := 3) hx hb dL_law_738 (by decide) ?_
  refine lv_iadd hx hb dL_law_739 ?_
  refine va_sld hx hb hX hbl hbA hS hin.2.2.1 dL_law_740 ?_
  refine L_X6_neighbour C0 hA hK hN hAD hC hS hl.1 hfit 4000000000000 hk12 (xs (i + 1).toNatClampNeg) (xs (i + 2).toNatClampNeg) (xs (i + 3).toNatClampNeg) hfo a9 fo'9 lp'9 lt'9 lu'9 six'9 all'9 w'9 b'9 c'9 ti'9 s'9 r'9 wo'9 im'9 be'9 br'9 e6 (fun H1 locs1 hC1 hS1 => ?_)
  refine lv_aload_n hx hb dL_law_744 rfl (lv_at hl 2 rfl) ?_
  refine lv_aload_n hx hb dL_law_745 rfl (lv_at hl 0 rfl) ?_
  refine lv_iload_n hx hb dL_law_746 rfl (lv_at hl 3 rfl) ?_
  refine lv_iconst (v := 1) hx hb dL_law_747 (by decide) ?_
  refine lv_iadd hx hb dL_law_748 ?_
  refine va_sld hx hb hX hbl hbA hS1 hin.1 dL_law_749 ?_
  refine lv_aload_n hx hb dL_law_750 rfl (lv_at hl 0 rfl) ?_
  refine lv_iload_n hx hb dL_law_751 rfl (lv_at hl 3 rfl) ?_
  refine lv_iconst (v := 2) hx hb dL_law_752 (by decide) ?_
  refine lv_iadd hx hb dL_law_753 ?_
  refine va_sld hx hb hX hbl hbA hS1 hin.2.1 dL_law_754 ?_
  refine lv_aload_n hx hb dL_law_755 rfl (lv_at hl 0 rfl) ?_
  refine lv_iload_n hx hb dL_law_756 rfl (lv_at hl 3 rfl) ?_
  refine lv_iconst (v := 3) hx hb dL_law_757 (by decide) ?_
  refine lv_iadd hx hb dL_law_758 ?_
  refine va_sld hx hb hX hbl hbA hS1 hin.2.2.1 dL_law_759 ?_
  refine L_X7_neighbour C0 hA hK hN hAD hC1 hS1 hl.1 hfit 4000000000000 (xs (i + 1).toNatClampNeg) (xs (i + 2).toNatClampNeg) (xs (i + 3).toNatClampNeg) a9 a9 tn'9 mt'9 mu'9 q'9 ba'9 le'9 tb'9 ro'9 li'9 sz'9 tr'9 ln'9 mk'9 tc'9 md'9  e7 (fun H2 locs2 hC2 hS2 => ?_)
  refine lv_icmp_eq (tgt := 988) hx hb dL_law_763 (by decide) (fun _ => ?_) (fun c9 => absurd rfl c9)
  exact kk _ _ _ _ _ hC2 ⟨_, _, _, (va_up_id F k).symm ▸ hI⟩ hS2
set_option maxHeartbeats 4000000 in
set_option maxRecDepth 100000 in
theorem LC_kin {p : Program} {l : Launch} {e : Env} {s : State} {m : MethodId} {below : List Frame} {meth : Method} {c : Code} {H : Heap} {locs : List Loc} {cells slots : Nat} {Q : State → Prop} {b0 L : Nat} {xs : Nat → Int32} (C0 : lw_At p s m meth c b0 L xs) {A : Nat → Prop} (hA : ∀ q, s.heap.size ≤ q → A q) (hbA : ¬ A b0) {dC : Nat → ClassId} {dI : Nat → Nat → Nat} {cI cJ cF cG : ClassId} {h : Nat} {a ra la fo : Nat → Nat} {ga ya mb pb : Nat → Nat → Nat} {hm : Nat} {am : Nat → Nat} (hK : va_K (dC, dI) vwCl [(cI, .int), (cF, .object "KinForms$Form"), (cG, .array .int), (cJ, .long)] s) (hN : NW s) (hAD : AD A cI cJ cF cG h a ra la fo ga ya mb pb hm am) {b : BS} {F : Nat → FS} {x : MS} (hC : CW (dC, dI) cI cJ cF cG h a ra la fo ga ya mb pb hm am b F x H) (hI : INVb b F x) (hS : va_S A s.heap H locs) {ls : Array Slot} {i : Int32} (hl : lv_has ls 4 [(0, .ref b0), (1, .ref h), (2, .ref hm), (3, .int i)]) (hfit : cells ≤ 600000 ∧ slots ≤ 7302250) (hin : in12 i L) (kk : ∀ (H1 : Heap) (locs1 : List Loc) (b1 : BS) (F1 : Nat → FS) (x1 : MS), CW (dC, dI) cI cJ cF cG h a ra la fo ga ya mb pb hm am b1 F1 x1 H1 → INVb b1 F1 x1 → va_S A s.heap H1 locs1 → W p l e room_1 s m #[Value.ref b0] below meth c H1 locs1 cells slots Q (F0 m 988 ls [])) : W p l e room_1 s m #[Value.ref b0] below meth c H locs cells slots Q (F0 m 768 ls []) := by
  obtain ⟨hx, hb, hr, hml, hown, hts, hX, hbl, hlocks, hgv⟩ := id C0
  obtain ⟨hcn, pn, QF, hI⟩ := hI
  obtain ⟨k, hk12, hfo⟩ := kx (xs (i + 1).toNatClampNeg)
  obtain ⟨a9, size'9, many'9, by_'9, tu'9, fo'9, lp'9, lt'9, lu'9, six'9, all'9, w'9, b'9, c'9, ti'9, s'9, r'9, wo'9, im'9, be'9, br'9, mem'9, path'9, tn'9, mt'9, mu'9, kinds'9, q'9, ba'9, le'9, tb'9, ro'9, li'9, sz'9, tr'9, ln'9, mk'9, tc'9, md'9, kf'9, kt'9, kw'9, e6, e7, hI9⟩ := S_kin hI (xs (i + 1).toNatClampNeg) hfo b.2.2.2.2.2.2.2.2.2.2.1 b.2.2.2.2.2.2.2.2.2.2.2.1 b.2.2.2.2.2.2.2.2.2.2.2.2.1 b.2.2.2.2.2.2.2.2.2.2.2.2.2.1 b.2.2.2.2.2.2.2.2.2.2.2.2.2.2.1 b.2.2.2.2.2.2.2.2.2.2.2.2.2.2.2.1 b.2.2.2.2.2.2.2.2.2.2.2.2.2.2.2.2.1 b.2.2.2.2.2.2.2.2.2.2.2.2.2.2.2.2.2.1 b.2.2.2.2.2.2.2.2.2.2.2.2.2.2.2.2.2.2.1 b.2.2.1 b.2.2.2.1 b.2.2.2.2.1 b.2.2.2.2.2.2.1 b.2.2.2.2.2.2.2.1 b.2.2.2.2.2.2.2.2.1 b.2.2.2.2.2.2.2.2.2.1 x.2.2.1 x.2.2.2.1 x.2.2.2.2.1 x.2.2.2.2.2.1 x.2.2.2.2.2.2.2.2.2.1 x.2.2.2.2.2.2.2.2.2.2.1 x.2.2.2.2.2.2.2.2.2.2.2.1 x.2.2.2.2.2.2.2.2.2.2.2.2.1 x.2.2.2.2.2.2.2.2.2.2.2.2.2.1 x.2.2.2.2.2.2.2.2.2.2.2.2.2.2.1 x.2.2.2.2.2.2.2.2.2.2.2.2.2.2.2.1 x.2.2.2.2.2.2.2.2.2.2.2.2.2.2.2.2.1 x.2.2.2.2.2.2.2.2.2.2.2.2.2.2.2.2.2.2.1 x.2.2.2.2.2.2.2.2.2.2.2.2.2.2.2.2.2.2.2.1 x.2.2.2.2.2.2.2.2.2.2.2.2.2.2.2.2.2.2.2.2.1 x.2.2.2.2.2.2.2.2.2.2.2.2.2.2.2.2.2.2.2.2.2.1 x.2.2.2.2.2.2.2.2.2.2.2.2.2.2.2.2.2.2.2.2.2.2.1 x.2.2.2.2.2.2.2.2.2.2.2.2.2.2.2.2.2.2.2.2.2.2.2.1 x.2.2.2.2.2.2.2.2.2.2.2.2.2.2.2.2.2.2.2.2.2.2.2.2 (Nat.le_refl 4000000000000)
  refine lv_aload_n hx hb dL_law_768 rfl (lv_at hl 1 rfl) ?_
  refine lv_aload_n hx hb dL_law_769 rfl (lv_at hl 0 rfl) ?_
  refine lv_iload_n hx hb dL_law_770 rfl (lv_at hl 3 rfl) ?_
  refine lv_iconst (v := 1) hx hb dL_law_771 (by decide) ?_
  refine lv_iadd hx hb dL_law_772 ?_
  refine va_sld hx hb hX hbl hbA hS hin.1 dL_law_773 ?_
  refine L_X6_kin C0 hA hK hN hAD hC hS hl.1 hfit 4000000000000 hk12 (xs (i + 1).toNatClampNeg) hfo a9 size'9 many'9 by_'9 tu'9 fo'9 lp'9 lt'9 lu'9 six'9 all'9 w'9 b'9 c'9 ti'9 s'9 r'9 wo'9 im'9 be'9 br'9 mem'9 path'9 e6 (fun H1 locs1 hC1 hS1 => ?_)
  refine lv_aload_n hx hb dL_law_777 rfl (lv_at hl 2 rfl) ?_
  refine lv_aload_n hx hb dL_law_778 rfl (lv_at hl 0 rfl) ?_
  refine lv_iload_n hx hb dL_law_779 rfl (lv_at hl 3 rfl) ?_
  refine lv_iconst (v := 1) hx hb dL_law_780 (by decide) ?_
  refine lv_iadd hx hb dL_law_781 ?_
  refine va_sld hx hb hX hbl hbA hS1 hin.1 dL_law_782 ?_
  refine L_X7_kin C0 hA hK hN hAD hC1 hS1 hl.1 hfit 4000000000000 (xs (i + 1).toNatClampNeg) a9 a9 tn'9 mt'9 mu'9 kinds'9 q'9 ba'9 le'9 tb'9 ro'9 li'9 sz'9 tr'9 ln'9 mk'9 tc'9 md'9 kf'9 kt'9 kw'9  e7 (fun H2 locs2 hC2 hS2 => ?_)
  refine lv_icmp_eq (tgt := 988) hx hb dL_law_786 (by decide) (fun _ => ?_) (fun c9 => absurd rfl c9)
  exact kk _ _ _ _ _ hC2 ⟨_, _, _, hI9⟩ hS2
set_option maxHeartbeats 4000000 in
set_option maxRecDepth 100000 in
theorem LC_kind {p : Program} {l : Launch} {e : Env} {s : State} {m : MethodId} {below : List Frame} {meth : Method} {c : Code} {H : Heap} {locs : List Loc} {cells slots : Nat} {Q : State → Prop} {b0 L : Nat} {xs : Nat → Int32} (C0 : lw_At p s m meth c b0 L xs) {A : Nat → Prop} (hA : ∀ q, s.heap.size ≤ q → A q) (hbA : ¬ A b0) {dC : Nat → ClassId} {dI : Nat → Nat → Nat} {cI cJ cF cG : ClassId} {h : Nat} {a ra la fo : Nat → Nat} {ga ya mb pb : Nat → Nat → Nat} {hm : Nat} {am : Nat → Nat} (hK : va_K (dC, dI) vwCl [(cI, .int), (cF, .object "KinForms$Form"), (cG, .array .int), (cJ, .long)] s) (hN : NW s) (hAD : AD A cI cJ cF cG h a ra la fo ga ya mb pb hm am) {b : BS} {F : Nat → FS} {x : MS} (hC : CW (dC, dI) cI cJ cF cG h a ra la fo ga ya mb pb hm am b F x H) (hI : INVb b F x) (hS : va_S A s.heap H locs) {ls : Array Slot} {i : Int32} (hl : lv_has ls 4 [(0, .ref b0), (1, .ref h), (2, .ref hm), (3, .int i)]) (hfit : cells ≤ 600000 ∧ slots ≤ 7302250) (hin : in12 i L) (kk : ∀ (H1 : Heap) (locs1 : List Loc) (b1 : BS) (F1 : Nat → FS) (x1 : MS), CW (dC, dI) cI cJ cF cG h a ra la fo ga ya mb pb hm am b1 F1 x1 H1 → INVb b1 F1 x1 → va_S A s.heap H1 locs1 → W p l e room_1 s m #[Value.ref b0] below meth c H1 locs1 cells slots Q (F0 m 988 ls [])) : W p l e room_1 s m #[Value.ref b0] below meth c H locs cells slots Q (F0 m 791 ls []) := by
  obtain ⟨hx, hb, hr, hml, hown, hts, hX, hbl, hlocks, hgv⟩ := id C0
  obtain ⟨hcn, pn, QF, hI⟩ := hI
  obtain ⟨k, hk12, hfo⟩ := kx (xs (i + 1).toNatClampNeg)
  obtain ⟨a9, size'9, many'9, by_'9, tu'9, fo'9, lp'9, lt'9, lu'9, six'9, all'9, w'9, b'9, c'9, ti'9, s'9, r'9, wo'9, im'9, be'9, br'9, mem'9, path'9, tn'9, mt'9, mu'9, kinds'9, q'9, ba'9, le'9, tb'9, ro'9, li'9, sz'9, tr'9, ln'9, mk'9, tc'9, md'9, kf'9, kt'9, kw'9, e6, e7, hI9⟩ := S_kind hI (xs (i + 1).toNatClampNeg) (xs (i + 2).toNatClampNeg) (xs (i + 3).toNatClampNeg) hfo b.2.2.2.2.2.2.2.2.2.2.1 b.2.2.2.2.2.2.2.2.2.2.2.1 b.2.2.2.2.2.2.2.2.2.2.2.2.1 b.2.2.2.2.2.2.2.2.2.2.2.2.2.1 b.2.2.2.2.2.2.2.2.2.2.2.2.2.2.1 b.2.2.2.2.2.2.2.2.2.2.2.2.2.2.2.1 b.2.2.2.2.2.2.2.2.2.2.2.2.2.2.2.2.1 b.2.2.2.2.2.2.2.2.2.2.2.2.2.2.2.2.2.1 b.2.2.2.2.2.2.2.2.2.2.2.2.2.2.2.2.2.2.1 b.2.2.1 b.2.2.2.1 b.2.2.2.2.1 b.2.2.2.2.2.2.1 b.2.2.2.2.2.2.2.1 b.2.2.2.2.2.2.2.2.1 b.2.2.2.2.2.2.2.2.2.1 x.2.2.1 x.2.2.2.1 x.2.2.2.2.1 x.2.2.2.2.2.1 x.2.2.2.2.2.2.2.2.2.1 x.2.2.2.2.2.2.2.2.2.2.1 x.2.2.2.2.2.2.2.2.2.2.2.1 x.2.2.2.2.2.2.2.2.2.2.2.2.1 x.2.2.2.2.2.2.2.2.2.2.2.2.2.1 x.2.2.2.2.2.2.2.2.2.2.2.2.2.2.1 x.2.2.2.2.2.2.2.2.2.2.2.2.2.2.2.1 x.2.2.2.2.2.2.2.2.2.2.2.2.2.2.2.2.1 x.2.2.2.2.2.2.2.2.2.2.2.2.2.2.2.2.2.2.1 x.2.2.2.2.2.2.2.2.2.2.2.2.2.2.2.2.2.2.2.1 x.2.2.2.2.2.2.2.2.2.2.2.2.2.2.2.2.2.2.2.2.1 x.2.2.2.2.2.2.2.2.2.2.2.2.2.2.2.2.2.2.2.2.2.1 x.2.2.2.2.2.2.2.2.2.2.2.2.2.2.2.2.2.2.2.2.2.2.1 x.2.2.2.2.2.2.2.2.2.2.2.2.2.2.2.2.2.2.2.2.2.2.2.1 x.2.2.2.2.2.2.2.2.2.2.2.2.2.2.2.2.2.2.2.2.2.2.2.2 (Nat.le_refl 4000000000000)
  refine lv_aload_n hx hb dL_law_791 rfl (lv_at hl 1 rfl) ?_
  refine lv_aload_n hx hb dL_law_792 rfl (lv_at hl 0 rfl) ?_
  refine lv_iload_n hx hb dL_law_793 rfl (lv_at hl 3 rfl) ?_
  refine lv_iconst (v := 1) hx hb dL_law_794 (by decide) ?_
  refine lv_iadd hx hb dL_law_795 ?_
  refine va_sld hx hb hX hbl hbA hS hin.1 dL_law_796 ?_
  refine lv_aload_n hx hb dL_law_797 rfl (lv_at hl 0 rfl) ?_
  refine lv_iload_n hx hb dL_law_798 rfl (lv_at hl 3 rfl) ?_
  refine lv_iconst (v := 2) hx hb dL_law_799 (by decide) ?_
  refine lv_iadd hx hb dL_law_800 ?_
  refine va_sld hx hb hX hbl hbA hS hin.2.1 dL_law_801 ?_
  refine lv_aload_n hx hb dL_law_802 rfl (lv_at hl 0 rfl) ?_
  refine lv_iload_n hx hb dL_law_803 rfl (lv_at hl 3 rfl) ?_
  refine lv_iconst (v := 3) hx hb dL_law_804 (by decide) ?_
  refine lv_iadd hx hb dL_law_805 ?_
  refine va_sld hx hb hX hbl hbA hS hin.2.2.1 dL_law_806 ?_
  refine L_X6_kind C0 hA hK hN hAD hC hS hl.1 hfit 4000000000000 hk12 (xs (i + 1).toNatClampNeg) (xs (i + 2).toNatClampNeg) (xs (i + 3).toNatClampNeg) hfo a9 size'9 many'9 by_'9 tu'9 fo'9 lp'9 lt'9 lu'9 six'9 all'9 w'9 b'9 c'9 ti'9 s'9 r'9 wo'9 im'9 be'9 br'9 mem'9 path'9 e6 (fun H1 locs1 hC1 hS1 => ?_)
  refine lv_aload_n hx hb dL_law_810 rfl (lv_at hl 2 rfl) ?_
  refine lv_aload_n hx hb dL_law_811 rfl (lv_at hl 0 rfl) ?_
  refine lv_iload_n hx hb dL_law_812 rfl (lv_at hl 3 rfl) ?_
  refine lv_iconst (v := 1) hx hb dL_law_813 (by decide) ?_
  refine lv_iadd hx hb dL_law_814 ?_
  refine va_sld hx hb hX hbl hbA hS1 hin.1 dL_law_815 ?_
  refine lv_aload_n hx hb dL_law_816 rfl (lv_at hl 0 rfl) ?_
  refine lv_iload_n hx hb dL_law_817 rfl (lv_at hl 3 rfl) ?_
  refine lv_iconst (v := 2) hx hb dL_law_818 (by decide) ?_
  refine lv_iadd hx hb dL_law_819 ?_
  refine va_sld hx hb hX hbl hbA hS1 hin.2.1 dL_law_820 ?_
  refine lv_aload_n hx hb dL_law_821 rfl (lv_at hl 0 rfl) ?_
  refine lv_iload_n hx hb dL_law_822 rfl (lv_at hl 3 rfl) ?_
  refine lv_iconst (v := 3) hx hb dL_law_823 (by decide) ?_
  refine lv_iadd hx hb dL_law_824 ?_
  refine va_sld hx hb hX hbl hbA hS1 hin.2.2.1 dL_law_825 ?_
  refine L_X7_kind C0 hA hK hN hAD hC1 hS1 hl.1 hfit 4000000000000 (xs (i + 1).toNatClampNeg) (xs (i + 2).toNatClampNeg) (xs (i + 3).toNatClampNeg) a9 a9 tn'9 mt'9 mu'9 kinds'9 q'9 ba'9 le'9 tb'9 ro'9 li'9 sz'9 tr'9 ln'9 mk'9 tc'9 md'9 kf'9 kt'9 kw'9  e7 (fun H2 locs2 hC2 hS2 => ?_)
  refine lv_icmp_eq (tgt := 988) hx hb dL_law_829 (by decide) (fun _ => ?_) (fun c9 => absurd rfl c9)
  exact kk _ _ _ _ _ hC2 ⟨_, _, _, hI9⟩ hS2
set_option maxHeartbeats 4000000 in
set_option maxRecDepth 100000 in
theorem LC_among {p : Program} {l : Launch} {e : Env} {s : State} {m : MethodId} {below : List Frame} {meth : Method} {c : Code} {H : Heap} {locs : List Loc} {cells slots : Nat} {Q : State → Prop} {b0 L : Nat} {xs : Nat → Int32} (C0 : lw_At p s m meth c b0 L xs) {A : Nat → Prop} (hA : ∀ q, s.heap.size ≤ q → A q) (hbA : ¬ A b0) {dC : Nat → ClassId} {dI : Nat → Nat → Nat} {cI cJ cF cG : ClassId} {h : Nat} {a ra la fo : Nat → Nat} {ga ya mb pb : Nat → Nat → Nat} {hm : Nat} {am : Nat → Nat} (hK : va_K (dC, dI) vwCl [(cI, .int), (cF, .object "KinForms$Form"), (cG, .array .int), (cJ, .long)] s) (hN : NW s) (hAD : AD A cI cJ cF cG h a ra la fo ga ya mb pb hm am) {b : BS} {F : Nat → FS} {x : MS} (hC : CW (dC, dI) cI cJ cF cG h a ra la fo ga ya mb pb hm am b F x H) (hI : INVb b F x) (hS : va_S A s.heap H locs) {ls : Array Slot} {i : Int32} (hl : lv_has ls 4 [(0, .ref b0), (1, .ref h), (2, .ref hm), (3, .int i)]) (hfit : cells ≤ 600000 ∧ slots ≤ 7302250) (hin : in12 i L) (kk : ∀ (H1 : Heap) (locs1 : List Loc) (b1 : BS) (F1 : Nat → FS) (x1 : MS), CW (dC, dI) cI cJ cF cG h a ra la fo ga ya mb pb hm am b1 F1 x1 H1 → INVb b1 F1 x1 → va_S A s.heap H1 locs1 → W p l e room_1 s m #[Value.ref b0] below meth c H1 locs1 cells slots Q (F0 m 988 ls [])) : W p l e room_1 s m #[Value.ref b0] below meth c H locs cells slots Q (F0 m 834 ls []) := by
  obtain ⟨hx, hb, hr, hml, hown, hts, hX, hbl, hlocks, hgv⟩ := id C0
  obtain ⟨hcn, pn, QF, hI⟩ := hI
  obtain ⟨k, hk12, hfo⟩ := kx (xs (i + 1).toNatClampNeg)
  obtain ⟨j, hj12, hfo2⟩ := kx (xs (i + 2).toNatClampNeg)
  obtain ⟨a9, size'9, many'9, by_'9, tu'9, fo'9, lp'9, lt'9, lu'9, six'9, all'9, w'9, b'9, c'9, ti'9, s'9, r'9, wo'9, im'9, be'9, br'9, mem'9, path'9, tn'9, mt'9, mu'9, kinds'9, q'9, ba'9, le'9, tb'9, ro'9, li'9, sz'9, tr'9, ln'9, mk'9, tc'9, md'9, kf'9, kt'9, kw'9, e6, e7, hI9⟩ := S_among hI (xs (i + 1).toNatClampNeg) (xs (i + 2).toNatClampNeg) hfo hfo2 b.2.2.2.2.2.2.2.2.2.2.1 b.2.2.2.2.2.2.2.2.2.2.2.1 b.2.2.2.2.2.2.2.2.2.2.2.2.1 b.2.2.2.2.2.2.2.2.2.2.2.2.2.1 b.2.2.2.2.2.2.2.2.2.2.2.2.2.2.1 b.2.2.2.2.2.2.2.2.2.2.2.2.2.2.2.1 b.2.2.2.2.2.2.2.2.2.2.2.2.2.2.2.2.1 b.2.2.2.2.2.2.2.2.2.2.2.2.2.2.2.2.2.1 b.2.2.2.2.2.2.2.2.2.2.2.2.2.2.2.2.2.2.1 b.2.2.1 b.2.2.2.1 b.2.2.2.2.1 b.2.2.2.2.2.2.1 b.2.2.2.2.2.2.2.1 b.2.2.2.2.2.2.2.2.1 b.2.2.2.2.2.2.2.2.2.1 x.2.2.1 x.2.2.2.1 x.2.2.2.2.1 x.2.2.2.2.2.1 x.2.2.2.2.2.2.2.2.2.1 x.2.2.2.2.2.2.2.2.2.2.1 x.2.2.2.2.2.2.2.2.2.2.2.1 x.2.2.2.2.2.2.2.2.2.2.2.2.1 x.2.2.2.2.2.2.2.2.2.2.2.2.2.1 x.2.2.2.2.2.2.2.2.2.2.2.2.2.2.1 x.2.2.2.2.2.2.2.2.2.2.2.2.2.2.2.1 x.2.2.2.2.2.2.2.2.2.2.2.2.2.2.2.2.1 x.2.2.2.2.2.2.2.2.2.2.2.2.2.2.2.2.2.2.1 x.2.2.2.2.2.2.2.2.2.2.2.2.2.2.2.2.2.2.2.1 x.2.2.2.2.2.2.2.2.2.2.2.2.2.2.2.2.2.2.2.2.1 x.2.2.2.2.2.2.2.2.2.2.2.2.2.2.2.2.2.2.2.2.2.1 x.2.2.2.2.2.2.2.2.2.2.2.2.2.2.2.2.2.2.2.2.2.2.1 x.2.2.2.2.2.2.2.2.2.2.2.2.2.2.2.2.2.2.2.2.2.2.2.1 x.2.2.2.2.2.2.2.2.2.2.2.2.2.2.2.2.2.2.2.2.2.2.2.2 (Nat.le_refl 4000000000000)
  refine lv_aload_n hx hb dL_law_834 rfl (lv_at hl 1 rfl) ?_
  refine lv_aload_n hx hb dL_law_835 rfl (lv_at hl 0 rfl) ?_
  refine lv_iload_n hx hb dL_law_836 rfl (lv_at hl 3 rfl) ?_
  refine lv_iconst (v := 1) hx hb dL_law_837 (by decide) ?_
  refine lv_iadd hx hb dL_law_838 ?_
  refine va_sld hx hb hX hbl hbA hS hin.1 dL_law_839 ?_
  refine lv_aload_n hx hb dL_law_840 rfl (lv_at hl 0 rfl) ?_
  refine lv_iload_n hx hb dL_law_841 rfl (lv_at hl 3 rfl) ?_
  refine lv_iconst (v := 2) hx hb dL_law_842 (by decide) ?_
  refine lv_iadd hx hb dL_law_843 ?_
  refine va_sld hx hb hX hbl hbA hS hin.2.1 dL_law_844 ?_
  by_cases hkj : k = j
  · subst hkj
    refine L_X6_amongB C0 hA hK hN hAD hC hS hl.1 hfit 4000000000000 hk12 (xs (i + 1).toNatClampNeg) (xs (i + 2).toNatClampNeg) hfo hfo2 a9 size'9 many'9 by_'9 tu'9 fo'9 lp'9 lt'9 lu'9 six'9 all'9 w'9 b'9 c'9 ti'9 s'9 r'9 wo'9 im'9 be'9 br'9 mem'9 path'9 e6 (fun H1 locs1 hC1 hS1 => ?_)
    refine lv_aload_n hx hb dL_law_848 rfl (lv_at hl 2 rfl) ?_
    refine lv_aload_n hx hb dL_law_849 rfl (lv_at hl 0 rfl) ?_
    refine lv_iload_n hx hb dL_law_850 rfl (lv_at hl 3 rfl) ?_
    refine lv_iconst (v := 1) hx hb dL_law_851 (by decide) ?_
    refine lv_iadd hx hb dL_law_852 ?_
    refine va_sld hx hb hX hbl hbA hS1 hin.1 dL_law_853 ?_
    refine lv_aload_n hx hb dL_law_854 rfl (lv_at hl 0 rfl) ?_
    refine lv_iload_n hx hb dL_law_855 rfl (lv_at hl 3 rfl) ?_
    refine lv_iconst (v := 2) hx hb dL_law_856 (by decide) ?_
    refine lv_iadd hx hb dL_law_857 ?_
    refine va_sld hx hb hX hbl hbA hS1 hin.2.1 dL_law_858 ?_
    refine L_X7_among C0 hA hK hN hAD hC1 hS1 hl.1 hfit 4000000000000 (xs (i + 1).toNatClampNeg) (xs (i + 2).toNatClampNeg) a9 a9 tn'9 mt'9 mu'9 kinds'9 q'9 ba'9 le'9 tb'9 ro'9 li'9 sz'9 tr'9 ln'9 mk'9 tc'9 md'9 kf'9 kt'9 kw'9  e7 (fun H2 locs2 hC2 hS2 => ?_)
    refine lv_icmp_eq (tgt := 988) hx hb dL_law_862 (by decide) (fun _ => ?_) (fun c9 => absurd rfl c9)
    exact kk _ _ _ _ _ hC2 ⟨_, _, _, hI9⟩ hS2
  · refine L_X6_among C0 hA hK hN hAD hC hS hl.1 hfit 4000000000000 hk12 hj12 hkj (xs (i + 1).toNatClampNeg) (xs (i + 2).toNatClampNeg) hfo hfo2 a9 size'9 many'9 by_'9 tu'9 fo'9 lp'9 lt'9 lu'9 six'9 all'9 w'9 b'9 c'9 ti'9 s'9 r'9 wo'9 im'9 be'9 br'9 mem'9 path'9 e6 (fun H1 locs1 hC1 hS1 => ?_)
    refine lv_aload_n hx hb dL_law_848 rfl (lv_at hl 2 rfl) ?_
    refine lv_aload_n hx hb dL_law_849 rfl (lv_at hl 0 rfl) ?_
    refine lv_iload_n hx hb dL_law_850 rfl (lv_at hl 3 rfl) ?_
    refine lv_iconst (v := 1) hx hb dL_law_851 (by decide) ?_
    refine lv_iadd hx hb dL_law_852 ?_
    refine va_sld hx hb hX hbl hbA hS1 hin.1 dL_law_853 ?_
    refine lv_aload_n hx hb dL_law_854 rfl (lv_at hl 0 rfl) ?_
    refine lv_iload_n hx hb dL_law_855 rfl (lv_at hl 3 rfl) ?_
    refine lv_iconst (v := 2) hx hb dL_law_856 (by decide) ?_
    refine lv_iadd hx hb dL_law_857 ?_
    refine va_sld hx hb hX hbl hbA hS1 hin.2.1 dL_law_858 ?_
    refine L_X7_among C0 hA hK hN hAD hC1 hS1 hl.1 hfit 4000000000000 (xs (i + 1).toNatClampNeg) (xs (i + 2).toNatClampNeg) a9 a9 tn'9 mt'9 mu'9 kinds'9 q'9 ba'9 le'9 tb'9 ro'9 li'9 sz'9 tr'9 ln'9 mk'9 tc'9 md'9 kf'9 kt'9 kw'9  e7 (fun H2 locs2 hC2 hS2 => ?_)
    refine lv_icmp_eq (tgt := 988) hx hb dL_law_862 (by decide) (fun _ => ?_) (fun c9 => absurd rfl c9)
    exact kk _ _ _ _ _ hC2 ⟨_, _, _, hI9⟩ hS2
set_option maxHeartbeats 4000000 in
set_option maxRecDepth 100000 in
theorem LC_ways {p : Program} {l : Launch} {e : Env} {s : State} {m : MethodId} {below : List Frame} {meth : Method} {c : Code} {H : Heap} {locs : List Loc} {cells slots : Nat} {Q : State → Prop} {b0 L : Nat} {xs : Nat → Int32} (C0 : lw_At p s m meth c b0 L xs) {A : Nat → Prop} (hA : ∀ q, s.heap.size ≤ q → A q) (hbA : ¬ A b0) {dC : Nat → ClassId} {dI : Nat → Nat → Nat} {cI cJ cF cG : ClassId} {h : Nat} {a ra la fo : Nat → Nat} {ga ya mb pb : Nat → Nat → Nat} {hm : Nat} {am : Nat → Nat} (hK : va_K (dC, dI) vwCl [(cI, .int), (cF, .object "KinForms$Form"), (cG, .array .int), (cJ, .long)] s) (hN : NW s) (hAD : AD A cI cJ cF cG h a ra la fo ga ya mb pb hm am) {b : BS} {F : Nat → FS} {x : MS} (hC : CW (dC, dI) cI cJ cF cG h a ra la fo ga ya mb pb hm am b F x H) (hI : INVb b F x) (hS : va_S A s.heap H locs) {ls : Array Slot} {i : Int32} (hl : lv_has ls 4 [(0, .ref b0), (1, .ref h), (2, .ref hm), (3, .int i)]) (hfit : cells ≤ 600000 ∧ slots ≤ 7302250) (hin : in12 i L) (kk : ∀ (H1 : Heap) (locs1 : List Loc) (b1 : BS) (F1 : Nat → FS) (x1 : MS), CW (dC, dI) cI cJ cF cG h a ra la fo ga ya mb pb hm am b1 F1 x1 H1 → INVb b1 F1 x1 → va_S A s.heap H1 locs1 → W p l e room_1 s m #[Value.ref b0] below meth c H1 locs1 cells slots Q (F0 m 988 ls [])) : W p l e room_1 s m #[Value.ref b0] below meth c H locs cells slots Q (F0 m 867 ls []) := by
  obtain ⟨hx, hb, hr, hml, hown, hts, hX, hbl, hlocks, hgv⟩ := id C0
  obtain ⟨hcn, pn, QF, hI⟩ := hI
  obtain ⟨k, hk12, hfo⟩ := kx (xs (i + 1).toNatClampNeg)
  obtain ⟨a9, size'9, many'9, by_'9, tu'9, fo'9, lp'9, lt'9, lu'9, six'9, all'9, w'9, b'9, c'9, ti'9, s'9, r'9, wo'9, im'9, be'9, br'9, mem'9, path'9, tn'9, mt'9, mu'9, kinds'9, q'9, ba'9, le'9, tb'9, ro'9, li'9, sz'9, tr'9, ln'9, mk'9, tc'9, md'9, kf'9, kt'9, kw'9, e6, e7, hI9⟩ := S_ways hI (xs (i + 1).toNatClampNeg) (xs (i + 2).toNatClampNeg) (xs (i + 3).toNatClampNeg) hfo b.2.2.2.2.2.2.2.2.2.2.1 b.2.2.2.2.2.2.2.2.2.2.2.1 b.2.2.2.2.2.2.2.2.2.2.2.2.1 b.2.2.2.2.2.2.2.2.2.2.2.2.2.1 b.2.2.2.2.2.2.2.2.2.2.2.2.2.2.1 b.2.2.2.2.2.2.2.2.2.2.2.2.2.2.2.1 b.2.2.2.2.2.2.2.2.2.2.2.2.2.2.2.2.1 b.2.2.2.2.2.2.2.2.2.2.2.2.2.2.2.2.2.1 b.2.2.2.2.2.2.2.2.2.2.2.2.2.2.2.2.2.2.1 b.2.2.1 b.2.2.2.1 b.2.2.2.2.1 b.2.2.2.2.2.2.1 b.2.2.2.2.2.2.2.1 b.2.2.2.2.2.2.2.2.1 b.2.2.2.2.2.2.2.2.2.1 x.2.2.1 x.2.2.2.1 x.2.2.2.2.1 x.2.2.2.2.2.1 x.2.2.2.2.2.2.2.2.2.1 x.2.2.2.2.2.2.2.2.2.2.1 x.2.2.2.2.2.2.2.2.2.2.2.1 x.2.2.2.2.2.2.2.2.2.2.2.2.1 x.2.2.2.2.2.2.2.2.2.2.2.2.2.1 x.2.2.2.2.2.2.2.2.2.2.2.2.2.2.1 x.2.2.2.2.2.2.2.2.2.2.2.2.2.2.2.1 x.2.2.2.2.2.2.2.2.2.2.2.2.2.2.2.2.1 x.2.2.2.2.2.2.2.2.2.2.2.2.2.2.2.2.2.2.1 x.2.2.2.2.2.2.2.2.2.2.2.2.2.2.2.2.2.2.2.1 x.2.2.2.2.2.2.2.2.2.2.2.2.2.2.2.2.2.2.2.2.1 x.2.2.2.2.2.2.2.2.2.2.2.2.2.2.2.2.2.2.2.2.2.1 x.2.2.2.2.2.2.2.2.2.2.2.2.2.2.2.2.2.2.2.2.2.2.1 x.2.2.2.2.2.2.2.2.2.2.2.2.2.2.2.2.2.2.2.2.2.2.2.1 x.2.2.2.2.2.2.2.2.2.2.2.2.2.2.2.2.2.2.2.2.2.2.2.2 (Nat.le_refl 4000000000000)
  refine lv_aload_n hx hb dL_law_867 rfl (lv_at hl 1 rfl) ?_
  refine lv_aload_n hx hb dL_law_868 rfl (lv_at hl 0 rfl) ?_
  refine lv_iload_n hx hb dL_law_869 rfl (lv_at hl 3 rfl) ?_
  refine lv_iconst (v := 1) hx hb dL_law_870 (by decide) ?_
  refine lv_iadd hx hb dL_law_871 ?_
  refine va_sld hx hb hX hbl hbA hS hin.1 dL_law_872 ?_
  refine lv_aload_n hx hb dL_law_873 rfl (lv_at hl 0 rfl) ?_
  refine lv_iload_n hx hb dL_law_874 rfl (lv_at hl 3 rfl) ?_
  refine lv_iconst (v := 2) hx hb dL_law_875 (by decide) ?_
  refine lv_iadd hx hb dL_law_876 ?_
  refine va_sld hx hb hX hbl hbA hS hin.2.1 dL_law_877 ?_
  refine lv_aload_n hx hb dL_law_878 rfl (lv_at hl 0 rfl) ?_
  refine lv_iload_n hx hb dL_law_879 rfl (lv_at hl 3 rfl) ?_
  refine lv_iconst (v := 3) hx hb dL_law_880 (by decide) ?_
  refine lv_iadd hx hb dL_law_881 ?_
  refine va_sld hx hb hX hbl hbA hS hin.2.2.1 dL_law_882 ?_
  refine L_X6_ways C0 hA hK hN hAD hC hS hl.1 hfit 4000000000000 hk12 (xs (i + 1).toNatClampNeg) (xs (i + 2).toNatClampNeg) (xs (i + 3).toNatClampNeg) hfo a9 size'9 many'9 by_'9 tu'9 fo'9 lp'9 lt'9 lu'9 six'9 all'9 w'9 b'9 c'9 ti'9 s'9 r'9 wo'9 im'9 be'9 br'9 mem'9 path'9 e6 (fun H1 locs1 hC1 hS1 => ?_)
  refine lv_aload_n hx hb dL_law_886 rfl (lv_at hl 2 rfl) ?_
  refine lv_aload_n hx hb dL_law_887 rfl (lv_at hl 0 rfl) ?_
  refine lv_iload_n hx hb dL_law_888 rfl (lv_at hl 3 rfl) ?_
  refine lv_iconst (v := 1) hx hb dL_law_889 (by decide) ?_
  refine lv_iadd hx hb dL_law_890 ?_
  refine va_sld hx hb hX hbl hbA hS1 hin.1 dL_law_891 ?_
  refine lv_aload_n hx hb dL_law_892 rfl (lv_at hl 0 rfl) ?_
  refine lv_iload_n hx hb dL_law_893 rfl (lv_at hl 3 rfl) ?_
  refine lv_iconst (v := 2) hx hb dL_law_894 (by decide) ?_
  refine lv_iadd hx hb dL_law_895 ?_
  refine va_sld hx hb hX hbl hbA hS1 hin.2.1 dL_law_896 ?_
  refine lv_aload_n hx hb dL_law_897 rfl (lv_at hl 0 rfl) ?_
  refine lv_iload_n hx hb dL_law_898 rfl (lv_at hl 3 rfl) ?_
  refine lv_iconst (v := 3) hx hb dL_law_899 (by decide) ?_
  refine lv_iadd hx hb dL_law_900 ?_
  refine va_sld hx hb hX hbl hbA hS1 hin.2.2.1 dL_law_901 ?_
  refine L_X7_ways C0 hA hK hN hAD hC1 hS1 hl.1 hfit 4000000000000 (xs (i + 1).toNatClampNeg) (xs (i + 2).toNatClampNeg) (xs (i + 3).toNatClampNeg) a9 a9 tn'9 mt'9 mu'9 kinds'9 q'9 ba'9 le'9 tb'9 ro'9 li'9 sz'9 tr'9 ln'9 mk'9 tc'9 md'9 kf'9 kt'9 kw'9  e7 (fun H2 locs2 hC2 hS2 => ?_)
  refine lv_icmp_eq (tgt := 988) hx hb dL_law_905 (by decide) (fun _ => ?_) (fun c9 => absurd rfl c9)
  exact kk _ _ _ _ _ hC2 ⟨_, _, _, hI9⟩ hS2
set_option maxHeartbeats 4000000 in
set_option maxRecDepth 100000 in
theorem LC_weight {p : Program} {l : Launch} {e : Env} {s : State} {m : MethodId} {below : List Frame} {meth : Method} {c : Code} {H : Heap} {locs : List Loc} {cells slots : Nat} {Q : State → Prop} {b0 L : Nat} {xs : Nat → Int32} (C0 : lw_At p s m meth c b0 L xs) {A : Nat → Prop} (hA : ∀ q, s.heap.size ≤ q → A q) (hbA : ¬ A b0) {dC : Nat → ClassId} {dI : Nat → Nat → Nat} {cI cJ cF cG : ClassId} {h : Nat} {a ra la fo : Nat → Nat} {ga ya mb pb : Nat → Nat → Nat} {hm : Nat} {am : Nat → Nat} (hK : va_K (dC, dI) vwCl [(cI, .int), (cF, .object "KinForms$Form"), (cG, .array .int), (cJ, .long)] s) (hN : NW s) (hAD : AD A cI cJ cF cG h a ra la fo ga ya mb pb hm am) {b : BS} {F : Nat → FS} {x : MS} (hC : CW (dC, dI) cI cJ cF cG h a ra la fo ga ya mb pb hm am b F x H) (hI : INVb b F x) (hS : va_S A s.heap H locs) {ls : Array Slot} {i : Int32} (hl : lv_has ls 4 [(0, .ref b0), (1, .ref h), (2, .ref hm), (3, .int i)]) (hfit : cells ≤ 600000 ∧ slots ≤ 7302250) (hin : in12 i L) (kk : ∀ (H1 : Heap) (locs1 : List Loc) (b1 : BS) (F1 : Nat → FS) (x1 : MS), CW (dC, dI) cI cJ cF cG h a ra la fo ga ya mb pb hm am b1 F1 x1 H1 → INVb b1 F1 x1 → va_S A s.heap H1 locs1 → W p l e room_1 s m #[Value.ref b0] below meth c H1 locs1 cells slots Q (F0 m 988 ls [])) : W p l e room_1 s m #[Value.ref b0] below meth c H locs cells slots Q (F0 m 910 ls []) := by
  obtain ⟨hx, hb, hr, hml, hown, hts, hX, hbl, hlocks, hgv⟩ := id C0
  obtain ⟨hcn, pn, QF, hI⟩ := hI
  obtain ⟨k, hk12, hfo⟩ := kx (xs (i + 1).toNatClampNeg)
  obtain ⟨a9, size'9, many'9, by_'9, tu'9, fo'9, lp'9, lt'9, lu'9, six'9, all'9, w'9, b'9, c'9, ti'9, s'9, r'9, wo'9, im'9, be'9, br'9, mem'9, path'9, tn'9, mt'9, mu'9, kinds'9, up'9, lo'9, q'9, ba'9, le'9, tb'9, ro'9, li'9, sz'9, tr'9, ln'9, mk'9, tc'9, md'9, kf'9, kt'9, kw'9, e6, e7, hI9⟩ := S_weight hI (xs (i + 1).toNatClampNeg) (xs (i + 2).toNatClampNeg) hfo b.2.2.2.2.2.2.2.2.2.2.1 b.2.2.2.2.2.2.2.2.2.2.2.1 b.2.2.2.2.2.2.2.2.2.2.2.2.1 b.2.2.2.2.2.2.2.2.2.2.2.2.2.1 b.2.2.2.2.2.2.2.2.2.2.2.2.2.2.1 b.2.2.2.2.2.2.2.2.2.2.2.2.2.2.2.1 b.2.2.2.2.2.2.2.2.2.2.2.2.2.2.2.2.1 b.2.2.2.2.2.2.2.2.2.2.2.2.2.2.2.2.2.1 b.2.2.2.2.2.2.2.2.2.2.2.2.2.2.2.2.2.2.1 b.2.2.1 b.2.2.2.1 b.2.2.2.2.1 b.2.2.2.2.2.2.1 b.2.2.2.2.2.2.2.1 b.2.2.2.2.2.2.2.2.1 b.2.2.2.2.2.2.2.2.2.1 x.2.2.1 x.2.2.2.1 x.2.2.2.2.1 x.2.2.2.2.2.1 x.2.2.2.2.2.2.1 x.2.2.2.2.2.2.2.1 x.2.2.2.2.2.2.2.2.2.1 x.2.2.2.2.2.2.2.2.2.2.1 x.2.2.2.2.2.2.2.2.2.2.2.1 x.2.2.2.2.2.2.2.2.2.2.2.2.1 x.2.2.2.2.2.2.2.2.2.2.2.2.2.1 x.2.2.2.2.2.2.2.2.2.2.2.2.2.2.1 x.2.2.2.2.2.2.2.2.2.2.2.2.2.2.2.1 x.2.2.2.2.2.2.2.2.2.2.2.2.2.2.2.2.1 x.2.2.2.2.2.2.2.2.2.2.2.2.2.2.2.2.2.2.1 x.2.2.2.2.2.2.2.2.2.2.2.2.2.2.2.2.2.2.2.1 x.2.2.2.2.2.2.2.2.2.2.2.2.2.2.2.2.2.2.2.2.1 x.2.2.2.2.2.2.2.2.2.2.2.2.2.2.2.2.2.2.2.2.2.1 x.2.2.2.2.2.2.2.2.2.2.2.2.2.2.2.2.2.2.2.2.2.2.1 x.2.2.2.2.2.2.2.2.2.2.2.2.2.2.2.2.2.2.2.2.2.2.2.1 x.2.2.2.2.2.2.2.2.2.2.2.2.2.2.2.2.2.2.2.2.2.2.2.2 (Nat.le_refl 4000000000000)
  refine lv_aload_n hx hb dL_law_910 rfl (lv_at hl 1 rfl) ?_
  refine lv_aload_n hx hb dL_law_911 rfl (lv_at hl 0 rfl) ?_
  refine lv_iload_n hx hb dL_law_912 rfl (lv_at hl 3 rfl) ?_
  refine lv_iconst (v := 1) hx hb dL_law_913 (by decide) ?_
  refine lv_iadd hx hb dL_law_914 ?_
  refine va_sld hx hb hX hbl hbA hS hin.1 dL_law_915 ?_
  refine lv_aload_n hx hb dL_law_916 rfl (lv_at hl 0 rfl) ?_
  refine lv_iload_n hx hb dL_law_917 rfl (lv_at hl 3 rfl) ?_
  refine lv_iconst (v := 2) hx hb dL_law_918 (by decide) ?_
  refine lv_iadd hx hb dL_law_919 ?_
  refine va_sld hx hb hX hbl hbA hS hin.2.1 dL_law_920 ?_
  refine L_X6_weight C0 hA hK hN hAD hC hS hl.1 hfit 4000000000000 hk12 (xs (i + 1).toNatClampNeg) (xs (i + 2).toNatClampNeg) hfo a9 size'9 many'9 by_'9 tu'9 fo'9 lp'9 lt'9 lu'9 six'9 all'9 w'9 b'9 c'9 ti'9 s'9 r'9 wo'9 im'9 be'9 br'9 mem'9 path'9 e6 (fun H1 locs1 hC1 hS1 => ?_)
  refine lv_aload_n hx hb dL_law_924 rfl (lv_at hl 2 rfl) ?_
  refine lv_aload_n hx hb dL_law_925 rfl (lv_at hl 0 rfl) ?_
  refine lv_iload_n hx hb dL_law_926 rfl (lv_at hl 3 rfl) ?_
  refine lv_iconst (v := 1) hx hb dL_law_927 (by decide) ?_
  refine lv_iadd hx hb dL_law_928 ?_
  refine va_sld hx hb hX hbl hbA hS1 hin.1 dL_law_929 ?_
  refine lv_aload_n hx hb dL_law_930 rfl (lv_at hl 0 rfl) ?_
  refine lv_iload_n hx hb dL_law_931 rfl (lv_at hl 3 rfl) ?_
  refine lv_iconst (v := 2) hx hb dL_law_932 (by decide) ?_
  refine lv_iadd hx hb dL_law_933 ?_
  refine va_sld hx hb hX hbl hbA hS1 hin.2.1 dL_law_934 ?_
  refine L_X7_weight C0 hA hK hN hAD hC1 hS1 hl.1 hfit 4000000000000 (xs (i + 1).toNatClampNeg) (xs (i + 2).toNatClampNeg) a9 a9 tn'9 mt'9 mu'9 kinds'9 up'9 lo'9 q'9 ba'9 le'9 tb'9 ro'9 li'9 sz'9 tr'9 ln'9 mk'9 tc'9 md'9 kf'9 kt'9 kw'9  e7 (fun H2 locs2 hC2 hS2 => ?_)
  refine W.lcmp hx hb dL_law_938 ?_
  refine lv_if_eq (tgt := 988) hx hb dL_law_939 (by decide) (fun _ => ?_) (fun c9 => absurd ((lg_cmp_eq _ _).mpr rfl) c9)
  exact kk _ _ _ _ _ hC2 ⟨_, _, _, hI9⟩ hS2
set_option maxHeartbeats 4000000 in
set_option maxRecDepth 100000 in
theorem LC_mean {p : Program} {l : Launch} {e : Env} {s : State} {m : MethodId} {below : List Frame} {meth : Method} {c : Code} {H : Heap} {locs : List Loc} {cells slots : Nat} {Q : State → Prop} {b0 L : Nat} {xs : Nat → Int32} (C0 : lw_At p s m meth c b0 L xs) {A : Nat → Prop} (hA : ∀ q, s.heap.size ≤ q → A q) (hbA : ¬ A b0) {dC : Nat → ClassId} {dI : Nat → Nat → Nat} {cI cJ cF cG : ClassId} {h : Nat} {a ra la fo : Nat → Nat} {ga ya mb pb : Nat → Nat → Nat} {hm : Nat} {am : Nat → Nat} (hK : va_K (dC, dI) vwCl [(cI, .int), (cF, .object "KinForms$Form"), (cG, .array .int), (cJ, .long)] s) (hN : NW s) (hAD : AD A cI cJ cF cG h a ra la fo ga ya mb pb hm am) {b : BS} {F : Nat → FS} {x : MS} (hC : CW (dC, dI) cI cJ cF cG h a ra la fo ga ya mb pb hm am b F x H) (hI : INVb b F x) (hS : va_S A s.heap H locs) {ls : Array Slot} {i : Int32} (hl : lv_has ls 4 [(0, .ref b0), (1, .ref h), (2, .ref hm), (3, .int i)]) (hfit : cells ≤ 600000 ∧ slots ≤ 7302250) (hin : in12 i L) (kk : ∀ (H1 : Heap) (locs1 : List Loc) (b1 : BS) (F1 : Nat → FS) (x1 : MS), CW (dC, dI) cI cJ cF cG h a ra la fo ga ya mb pb hm am b1 F1 x1 H1 → INVb b1 F1 x1 → va_S A s.heap H1 locs1 → W p l e room_1 s m #[Value.ref b0] below meth c H1 locs1 cells slots Q (F0 m 988 ls [])) : W p l e room_1 s m #[Value.ref b0] below meth c H locs cells slots Q (F0 m 944 ls []) := by
  obtain ⟨hx, hb, hr, hml, hown, hts, hX, hbl, hlocks, hgv⟩ := id C0
  obtain ⟨hcn, pn, QF, hI⟩ := hI
  obtain ⟨k, hk12, hfo⟩ := kx (xs (i + 1).toNatClampNeg)
  obtain ⟨a9, size'9, many'9, by_'9, tu'9, fo'9, lp'9, lt'9, lu'9, six'9, all'9, w'9, b'9, c'9, ti'9, s'9, r'9, wo'9, im'9, be'9, br'9, mem'9, path'9, tn'9, mt'9, mu'9, kinds'9, up'9, lo'9, q'9, ba'9, le'9, tb'9, ro'9, li'9, sz'9, tr'9, ln'9, mk'9, tc'9, md'9, kf'9, kt'9, kw'9, e6, e7, hI9⟩ := S_mean hI (xs (i + 1).toNatClampNeg) (xs (i + 2).toNatClampNeg) (xs (i + 3).toNatClampNeg) hfo b.2.2.2.2.2.2.2.2.2.2.1 b.2.2.2.2.2.2.2.2.2.2.2.1 b.2.2.2.2.2.2.2.2.2.2.2.2.1 b.2.2.2.2.2.2.2.2.2.2.2.2.2.1 b.2.2.2.2.2.2.2.2.2.2.2.2.2.2.1 b.2.2.2.2.2.2.2.2.2.2.2.2.2.2.2.1 b.2.2.2.2.2.2.2.2.2.2.2.2.2.2.2.2.1 b.2.2.2.2.2.2.2.2.2.2.2.2.2.2.2.2.2.1 b.2.2.2.2.2.2.2.2.2.2.2.2.2.2.2.2.2.2.1 b.2.2.1 b.2.2.2.1 b.2.2.2.2.1 b.2.2.2.2.2.2.1 b.2.2.2.2.2.2.2.1 b.2.2.2.2.2.2.2.2.1 b.2.2.2.2.2.2.2.2.2.1 x.2.2.1 x.2.2.2.1 x.2.2.2.2.1 x.2.2.2.2.2.1 x.2.2.2.2.2.2.1 x.2.2.2.2.2.2.2.1 x.2.2.2.2.2.2.2.2.2.1 x.2.2.2.2.2.2.2.2.2.2.1 x.2.2.2.2.2.2.2.2.2.2.2.1 x.2.2.2.2.2.2.2.2.2.2.2.2.1 x.2.2.2.2.2.2.2.2.2.2.2.2.2.1 x.2.2.2.2.2.2.2.2.2.2.2.2.2.2.1 x.2.2.2.2.2.2.2.2.2.2.2.2.2.2.2.1 x.2.2.2.2.2.2.2.2.2.2.2.2.2.2.2.2.1 x.2.2.2.2.2.2.2.2.2.2.2.2.2.2.2.2.2.2.1 x.2.2.2.2.2.2.2.2.2.2.2.2.2.2.2.2.2.2.2.1 x.2.2.2.2.2.2.2.2.2.2.2.2.2.2.2.2.2.2.2.2.1 x.2.2.2.2.2.2.2.2.2.2.2.2.2.2.2.2.2.2.2.2.2.1 x.2.2.2.2.2.2.2.2.2.2.2.2.2.2.2.2.2.2.2.2.2.2.1 x.2.2.2.2.2.2.2.2.2.2.2.2.2.2.2.2.2.2.2.2.2.2.2.1 x.2.2.2.2.2.2.2.2.2.2.2.2.2.2.2.2.2.2.2.2.2.2.2.2 (Nat.le_refl 4000000000000)
  refine lv_aload_n hx hb dL_law_944 rfl (lv_at hl 1 rfl) ?_
  refine lv_aload_n hx hb dL_law_945 rfl (lv_at hl 0 rfl) ?_
  refine lv_iload_n hx hb dL_law_946 rfl (lv_at hl 3 rfl) ?_
  refine lv_iconst (v := 1) hx hb dL_law_947 (by decide) ?_
  refine lv_iadd hx hb dL_law_948 ?_
  refine va_sld hx hb hX hbl hbA hS hin.1 dL_law_949 ?_
  refine lv_aload_n hx hb dL_law_950 rfl (lv_at hl 0 rfl) ?_
  refine lv_iload_n hx hb dL_law_951 rfl (lv_at hl 3 rfl) ?_
  refine lv_iconst (v := 2) hx hb dL_law_952 (by decide) ?_
  refine lv_iadd hx hb dL_law_953 ?_
  refine va_sld hx hb hX hbl hbA hS hin.2.1 dL_law_954 ?_
  refine lv_aload_n hx hb dL_law_955 rfl (lv_at hl 0 rfl) ?_
  refine lv_iload_n hx hb dL_law_956 rfl (lv_at hl 3 rfl) ?_
  refine lv_iconst (v := 3) hx hb dL_law_957 (by decide) ?_
  refine lv_iadd hx hb dL_law_958 ?_
  refine va_sld hx hb hX hbl hbA hS hin.2.2.1 dL_law_959 ?_
  refine L_X6_mean C0 hA hK hN hAD hC hS hl.1 hfit 4000000000000 hk12 (xs (i + 1).toNatClampNeg) (xs (i + 2).toNatClampNeg) (xs (i + 3).toNatClampNeg) hfo a9 size'9 many'9 by_'9 tu'9 fo'9 lp'9 lt'9 lu'9 six'9 all'9 w'9 b'9 c'9 ti'9 s'9 r'9 wo'9 im'9 be'9 br'9 mem'9 path'9 e6 (fun H1 locs1 hC1 hS1 => ?_)
  refine lv_aload_n hx hb dL_law_963 rfl (lv_at hl 2 rfl) ?_
  refine lv_aload_n hx hb dL_law_964 rfl (lv_at hl 0 rfl) ?_
  refine lv_iload_n hx hb dL_law_965 rfl (lv_at hl 3 rfl) ?_
  refine lv_iconst (v := 1) hx hb dL_law_966 (by decide) ?_
  refine lv_iadd hx hb dL_law_967 ?_
  refine va_sld hx hb hX hbl hbA hS1 hin.1 dL_law_968 ?_
  refine lv_aload_n hx hb dL_law_969 rfl (lv_at hl 0 rfl) ?_
  refine lv_iload_n hx hb dL_law_970 rfl (lv_at hl 3 rfl) ?_
  refine lv_iconst (v := 2) hx hb dL_law_971 (by decide) ?_
  refine lv_iadd hx hb dL_law_972 ?_
  refine va_sld hx hb hX hbl hbA hS1 hin.2.1 dL_law_973 ?_
  refine lv_aload_n hx hb dL_law_974 rfl (lv_at hl 0 rfl) ?_
  refine lv_iload_n hx hb dL_law_975 rfl (lv_at hl 3 rfl) ?_
  refine lv_iconst (v := 3) hx hb dL_law_976 (by decide) ?_
  refine lv_iadd hx hb dL_law_977 ?_
  refine va_sld hx hb hX hbl hbA hS1 hin.2.2.1 dL_law_978 ?_
  refine L_X7_mean C0 hA hK hN hAD hC1 hS1 hl.1 hfit 4000000000000 (xs (i + 1).toNatClampNeg) (xs (i + 2).toNatClampNeg) (xs (i + 3).toNatClampNeg) a9 a9 tn'9 mt'9 mu'9 kinds'9 up'9 lo'9 q'9 ba'9 le'9 tb'9 ro'9 li'9 sz'9 tr'9 ln'9 mk'9 tc'9 md'9 kf'9 kt'9 kw'9  e7 (fun H2 locs2 hC2 hS2 => ?_)
  refine W.lcmp hx hb dL_law_982 ?_
  refine lv_if_eq (tgt := 988) hx hb dL_law_983 (by decide) (fun _ => ?_) (fun c9 => absurd ((lg_cmp_eq _ _).mpr rfl) c9)
  exact kk _ _ _ _ _ hC2 ⟨_, _, _, hI9⟩ hS2
