set_option maxHeartbeats 4000000 in
set_option maxRecDepth 100000 in
theorem law_c0 {p : Program} {l : Launch} {e : Env} {s : State} {m : MethodId} {below : List Frame} {meth : Method} {c : Code} {D : va_G} {cy : gCy} {aC aR : Nat → Nat} {b L cells slots i : Nat} {xs : Nat → Int32} {MC MR : gMem} {H : Heap} {locs : List Loc} {ls : Array Slot} {Q : State → Prop} (S : CallFix p m c cL_law 4 s #[Value.ref b] wsL_law RL) (hX : va_X b L xs s s.heap) (hbl : b < s.heap.size) (hL : L ≤ 2560) (hf : cells + 0 ≤ room_1.cells ∧ slots + 0 ≤ room_1.slots) (hi : i + 5 ≤ L) (C : lwI D cy aC aR s MC MR H locs) (h : Inv MC MR) (hl : lv_has ls 4 [(0, .ref b), (1, .ref (aC 0)), (2, .ref (aR 0)), (3, .int (nI i))])
    (kk : ∀ (MC1 MR1 : gMem) (H1 : Heap) (locs1 : List Loc), lwI D cy aC aR s MC1 MR1 H1 locs1 → Inv MC1 MR1 → W p l e room_1 s m #[Value.ref b] below meth c H1 locs1 cells slots Q (F0 m 939 ls [])) : W p l e room_1 s m #[Value.ref b] below meth c H locs cells slots Q (F0 m 136 ls []) := by
  obtain ⟨r, MC', MR', e1, e2, h'⟩ := op_put h (xs (i + 1)) (xs (i + 2)) (xs (i + 3)) (xs (i + 4))
  refine lv_aload_n S.1 S.2.1 dL_law_136 rfl (lv_at hl 1 rfl) ?_
  refine lArg 1 S hX hbl hL C.S hl (by omega) (by decide) dL_law_137 dL_law_138 dL_law_139 dL_law_140 dL_law_141 ?_
  refine lArg 2 S hX hbl hL C.S hl (by omega) (by decide) dL_law_142 dL_law_143 dL_law_144 dL_law_145 dL_law_146 ?_
  refine lArg 3 S hX hbl hL C.S hl (by omega) (by decide) dL_law_147 dL_law_148 dL_law_149 dL_law_150 dL_law_151 ?_
  refine lArg 4 S hX hbl hL C.S hl (by omega) (by decide) dL_law_152 dL_law_153 dL_law_154 dL_law_155 dL_law_156 ?_
  refine lC_iC C (lRV (k := 0) (ci := 6) (r := (RX7, TX7, 9)) (As := [.int (xs (i + 1)), .int (xs (i + 2)), .int (xs (i + 3)), .int (xs (i + 4))]) (rest := []) 4 S C.1 C.2.1 C.2.2.1 C.2.2.2.2.1 (c_X7_put l D cy aC MC _ _ _ _ (r, MC') e1) gL_law_X7_put rfl (by decide +kernel) (by decide) shC_0 rfl rfl rfl hl.1 rfl (Nat.le_of_ble_eq_true rfl) dL_law_157 hf) (fun H locs C => ?_)
  refine lv_aload_n S.1 S.2.1 dL_law_160 rfl (lv_at hl 2 rfl) ?_
  refine lArg 1 S hX hbl hL C.S hl (by omega) (by decide) dL_law_161 dL_law_162 dL_law_163 dL_law_164 dL_law_165 ?_
  refine lArg 2 S hX hbl hL C.S hl (by omega) (by decide) dL_law_166 dL_law_167 dL_law_168 dL_law_169 dL_law_170 ?_
  refine lArg 3 S hX hbl hL C.S hl (by omega) (by decide) dL_law_171 dL_law_172 dL_law_173 dL_law_174 dL_law_175 ?_
  refine lArg 4 S hX hbl hL C.S hl (by omega) (by decide) dL_law_176 dL_law_177 dL_law_178 dL_law_179 dL_law_180 ?_
  refine lC_iR C (lRV (k := 0) (ci := 7) (r := (RX8, TX8, 34)) (As := [.int (xs (i + 1)), .int (xs (i + 2)), .int (xs (i + 3)), .int (xs (i + 4))]) (rest := [.int r]) 4 S C.1 C.2.1 C.2.2.2.1 C.2.2.2.2.2.1 (c_X8_put l D cy aR MR _ _ _ _ (r, MR') e2) gL_law_X8_put rfl (by decide +kernel) (by decide) shR_0 rfl rfl rfl hl.1 rfl (Nat.le_of_ble_eq_true rfl) dL_law_181 hf) (fun H locs C => ?_)
  exact lv_icmp_eq (tgt := 939) S.1 S.2.1 dL_law_184 (by decide) (fun _ => kk MC' MR' H locs C h') (fun cq => absurd rfl cq)
set_option maxHeartbeats 4000000 in
set_option maxRecDepth 100000 in
theorem law_c1 {p : Program} {l : Launch} {e : Env} {s : State} {m : MethodId} {below : List Frame} {meth : Method} {c : Code} {D : va_G} {cy : gCy} {aC aR : Nat → Nat} {b L cells slots i : Nat} {xs : Nat → Int32} {MC MR : gMem} {H : Heap} {locs : List Loc} {ls : Array Slot} {Q : State → Prop} (S : CallFix p m c cL_law 4 s #[Value.ref b] wsL_law RL) (hX : va_X b L xs s s.heap) (hbl : b < s.heap.size) (hL : L ≤ 2560) (hf : cells + 0 ≤ room_1.cells ∧ slots + 0 ≤ room_1.slots) (hi : i + 5 ≤ L) (C : lwI D cy aC aR s MC MR H locs) (h : Inv MC MR) (hl : lv_has ls 4 [(0, .ref b), (1, .ref (aC 0)), (2, .ref (aR 0)), (3, .int (nI i))])
    (kk : ∀ (MC1 MR1 : gMem) (H1 : Heap) (locs1 : List Loc), lwI D cy aC aR s MC1 MR1 H1 locs1 → Inv MC1 MR1 → W p l e room_1 s m #[Value.ref b] below meth c H1 locs1 cells slots Q (F0 m 939 ls [])) : W p l e room_1 s m #[Value.ref b] below meth c H locs cells slots Q (F0 m 189 ls []) := by
  obtain ⟨r, MC', MR', e1, e2, h'⟩ := op_drop h (xs (i + 1)) (xs (i + 2)) (xs (i + 3))
  refine lv_aload_n S.1 S.2.1 dL_law_189 rfl (lv_at hl 1 rfl) ?_
  refine lArg 1 S hX hbl hL C.S hl (by omega) (by decide) dL_law_190 dL_law_191 dL_law_192 dL_law_193 dL_law_194 ?_
  refine lArg 2 S hX hbl hL C.S hl (by omega) (by decide) dL_law_195 dL_law_196 dL_law_197 dL_law_198 dL_law_199 ?_
  refine lArg 3 S hX hbl hL C.S hl (by omega) (by decide) dL_law_200 dL_law_201 dL_law_202 dL_law_203 dL_law_204 ?_
  refine lC_iC C (lRV (k := 0) (ci := 6) (r := (RX7, TX7, 9)) (As := [.int (xs (i + 1)), .int (xs (i + 2)), .int (xs (i + 3))]) (rest := []) 3 S C.1 C.2.1 C.2.2.1 C.2.2.2.2.1 (c_X7_drop l D cy aC MC _ _ _ (r, MC') e1) gL_law_X7_drop rfl (by decide +kernel) (by decide) shC_0 rfl rfl rfl hl.1 rfl (Nat.le_of_ble_eq_true rfl) dL_law_205 hf) (fun H locs C => ?_)
  refine lv_aload_n S.1 S.2.1 dL_law_208 rfl (lv_at hl 2 rfl) ?_
  refine lArg 1 S hX hbl hL C.S hl (by omega) (by decide) dL_law_209 dL_law_210 dL_law_211 dL_law_212 dL_law_213 ?_
  refine lArg 2 S hX hbl hL C.S hl (by omega) (by decide) dL_law_214 dL_law_215 dL_law_216 dL_law_217 dL_law_218 ?_
  refine lArg 3 S hX hbl hL C.S hl (by omega) (by decide) dL_law_219 dL_law_220 dL_law_221 dL_law_222 dL_law_223 ?_
  refine lC_iR C (lRV (k := 0) (ci := 7) (r := (RX8, TX8, 34)) (As := [.int (xs (i + 1)), .int (xs (i + 2)), .int (xs (i + 3))]) (rest := [.int r]) 3 S C.1 C.2.1 C.2.2.2.1 C.2.2.2.2.2.1 (c_X8_drop l D cy aR MR _ _ _ (r, MR') e2) gL_law_X8_drop rfl (by decide +kernel) (by decide) shR_0 rfl rfl rfl hl.1 rfl (Nat.le_of_ble_eq_true rfl) dL_law_224 hf) (fun H locs C => ?_)
  exact lv_icmp_eq (tgt := 939) S.1 S.2.1 dL_law_227 (by decide) (fun _ => kk MC' MR' H locs C h') (fun cq => absurd rfl cq)
set_option maxHeartbeats 4000000 in
set_option maxRecDepth 100000 in
theorem law_c2 {p : Program} {l : Launch} {e : Env} {s : State} {m : MethodId} {below : List Frame} {meth : Method} {c : Code} {D : va_G} {cy : gCy} {aC aR : Nat → Nat} {b L cells slots i : Nat} {xs : Nat → Int32} {MC MR : gMem} {H : Heap} {locs : List Loc} {ls : Array Slot} {Q : State → Prop} (S : CallFix p m c cL_law 4 s #[Value.ref b] wsL_law RL) (hX : va_X b L xs s s.heap) (hbl : b < s.heap.size) (hL : L ≤ 2560) (hf : cells + 0 ≤ room_1.cells ∧ slots + 0 ≤ room_1.slots) (hi : i + 5 ≤ L) (C : lwI D cy aC aR s MC MR H locs) (h : Inv MC MR) (hl : lv_has ls 4 [(0, .ref b), (1, .ref (aC 0)), (2, .ref (aR 0)), (3, .int (nI i))])
    (kk : ∀ (MC1 MR1 : gMem) (H1 : Heap) (locs1 : List Loc), lwI D cy aC aR s MC1 MR1 H1 locs1 → Inv MC1 MR1 → W p l e room_1 s m #[Value.ref b] below meth c H1 locs1 cells slots Q (F0 m 939 ls [])) : W p l e room_1 s m #[Value.ref b] below meth c H locs cells slots Q (F0 m 232 ls []) := by
  obtain ⟨r, MC', MR', e1, e2, h'⟩ := op_copy h (xs (i + 1)) (xs (i + 2))
  refine lv_aload_n S.1 S.2.1 dL_law_232 rfl (lv_at hl 1 rfl) ?_
  refine lArg 1 S hX hbl hL C.S hl (by omega) (by decide) dL_law_233 dL_law_234 dL_law_235 dL_law_236 dL_law_237 ?_
  refine lArg 2 S hX hbl hL C.S hl (by omega) (by decide) dL_law_238 dL_law_239 dL_law_240 dL_law_241 dL_law_242 ?_
  refine lC_iC C (lRV (k := 0) (ci := 6) (r := (RX7, TX7, 9)) (As := [.int (xs (i + 1)), .int (xs (i + 2))]) (rest := []) 2 S C.1 C.2.1 C.2.2.1 C.2.2.2.2.1 (c_X7_copy l D cy aC MC _ _ (r, MC') e1) gL_law_X7_copy rfl (by decide +kernel) (by decide) shC_0 rfl rfl rfl hl.1 rfl (Nat.le_of_ble_eq_true rfl) dL_law_243 hf) (fun H locs C => ?_)
  refine lv_aload_n S.1 S.2.1 dL_law_246 rfl (lv_at hl 2 rfl) ?_
  refine lArg 1 S hX hbl hL C.S hl (by omega) (by decide) dL_law_247 dL_law_248 dL_law_249 dL_law_250 dL_law_251 ?_
  refine lArg 2 S hX hbl hL C.S hl (by omega) (by decide) dL_law_252 dL_law_253 dL_law_254 dL_law_255 dL_law_256 ?_
  refine lC_iR C (lRV (k := 0) (ci := 7) (r := (RX8, TX8, 34)) (As := [.int (xs (i + 1)), .int (xs (i + 2))]) (rest := [.int r]) 2 S C.1 C.2.1 C.2.2.2.1 C.2.2.2.2.2.1 (c_X8_copy l D cy aR MR _ _ (r, MR') e2) gL_law_X8_copy rfl (by decide +kernel) (by decide) shR_0 rfl rfl rfl hl.1 rfl (Nat.le_of_ble_eq_true rfl) dL_law_257 hf) (fun H locs C => ?_)
  exact lv_icmp_eq (tgt := 939) S.1 S.2.1 dL_law_260 (by decide) (fun _ => kk MC' MR' H locs C h') (fun cq => absurd rfl cq)
set_option maxHeartbeats 4000000 in
set_option maxRecDepth 100000 in
theorem law_c3 {p : Program} {l : Launch} {e : Env} {s : State} {m : MethodId} {below : List Frame} {meth : Method} {c : Code} {D : va_G} {cy : gCy} {aC aR : Nat → Nat} {b L cells slots i : Nat} {xs : Nat → Int32} {MC MR : gMem} {H : Heap} {locs : List Loc} {ls : Array Slot} {Q : State → Prop} (S : CallFix p m c cL_law 4 s #[Value.ref b] wsL_law RL) (hX : va_X b L xs s s.heap) (hbl : b < s.heap.size) (hL : L ≤ 2560) (hf : cells + 0 ≤ room_1.cells ∧ slots + 0 ≤ room_1.slots) (hi : i + 5 ≤ L) (C : lwI D cy aC aR s MC MR H locs) (h : Inv MC MR) (hl : lv_has ls 4 [(0, .ref b), (1, .ref (aC 0)), (2, .ref (aR 0)), (3, .int (nI i))])
    (kk : ∀ (MC1 MR1 : gMem) (H1 : Heap) (locs1 : List Loc), lwI D cy aC aR s MC1 MR1 H1 locs1 → Inv MC1 MR1 → W p l e room_1 s m #[Value.ref b] below meth c H1 locs1 cells slots Q (F0 m 939 ls [])) : W p l e room_1 s m #[Value.ref b] below meth c H locs cells slots Q (F0 m 265 ls []) := by
  obtain ⟨r, e1, e2⟩ := op_count h (xs (i + 1))
  refine lv_aload_n S.1 S.2.1 dL_law_265 rfl (lv_at hl 1 rfl) ?_
  refine lArg 1 S hX hbl hL C.S hl (by omega) (by decide) dL_law_266 dL_law_267 dL_law_268 dL_law_269 dL_law_270 ?_
  refine lC_iC C (lRV (k := 0) (ci := 6) (r := (RX7, TX7, 9)) (As := [.int (xs (i + 1))]) (rest := []) 1 S C.1 C.2.1 C.2.2.1 C.2.2.2.2.1 (c_X7_count l D cy aC MC _ r e1) gL_law_X7_count rfl (by decide +kernel) (by decide) shC_0 rfl rfl rfl hl.1 rfl (Nat.le_of_ble_eq_true rfl) dL_law_271 hf) (fun H locs C => ?_)
  refine lv_aload_n S.1 S.2.1 dL_law_274 rfl (lv_at hl 2 rfl) ?_
  refine lArg 1 S hX hbl hL C.S hl (by omega) (by decide) dL_law_275 dL_law_276 dL_law_277 dL_law_278 dL_law_279 ?_
  refine lC_iR C (lRV (k := 0) (ci := 7) (r := (RX8, TX8, 34)) (As := [.int (xs (i + 1))]) (rest := [.int r]) 1 S C.1 C.2.1 C.2.2.2.1 C.2.2.2.2.2.1 (c_X8_count l D cy aR MR _ r e2) gL_law_X8_count rfl (by decide +kernel) (by decide) shR_0 rfl rfl rfl hl.1 rfl (Nat.le_of_ble_eq_true rfl) dL_law_280 hf) (fun H locs C => ?_)
  exact lv_icmp_eq (tgt := 939) S.1 S.2.1 dL_law_283 (by decide) (fun _ => kk MC MR H locs C h) (fun cq => absurd rfl cq)
set_option maxHeartbeats 4000000 in
set_option maxRecDepth 100000 in
theorem law_c4 {p : Program} {l : Launch} {e : Env} {s : State} {m : MethodId} {below : List Frame} {meth : Method} {c : Code} {D : va_G} {cy : gCy} {aC aR : Nat → Nat} {b L cells slots i : Nat} {xs : Nat → Int32} {MC MR : gMem} {H : Heap} {locs : List Loc} {ls : Array Slot} {Q : State → Prop} (S : CallFix p m c cL_law 4 s #[Value.ref b] wsL_law RL) (hX : va_X b L xs s s.heap) (hbl : b < s.heap.size) (hL : L ≤ 2560) (hf : cells + 0 ≤ room_1.cells ∧ slots + 0 ≤ room_1.slots) (hi : i + 5 ≤ L) (C : lwI D cy aC aR s MC MR H locs) (h : Inv MC MR) (hl : lv_has ls 4 [(0, .ref b), (1, .ref (aC 0)), (2, .ref (aR 0)), (3, .int (nI i))])
    (kk : ∀ (MC1 MR1 : gMem) (H1 : Heap) (locs1 : List Loc), lwI D cy aC aR s MC1 MR1 H1 locs1 → Inv MC1 MR1 → W p l e room_1 s m #[Value.ref b] below meth c H1 locs1 cells slots Q (F0 m 939 ls [])) : W p l e room_1 s m #[Value.ref b] below meth c H locs cells slots Q (F0 m 288 ls []) := by
  obtain ⟨r, e1, e2⟩ := op_line h (xs (i + 1)) (xs (i + 2)) (xs (i + 3))
  refine lv_aload_n S.1 S.2.1 dL_law_288 rfl (lv_at hl 1 rfl) ?_
  refine lArg 1 S hX hbl hL C.S hl (by omega) (by decide) dL_law_289 dL_law_290 dL_law_291 dL_law_292 dL_law_293 ?_
  refine lArg 2 S hX hbl hL C.S hl (by omega) (by decide) dL_law_294 dL_law_295 dL_law_296 dL_law_297 dL_law_298 ?_
  refine lArg 3 S hX hbl hL C.S hl (by omega) (by decide) dL_law_299 dL_law_300 dL_law_301 dL_law_302 dL_law_303 ?_
  refine lC_lC C (lRV (k := 0) (ci := 6) (r := (RX7, TX7, 9)) (As := [.int (xs (i + 1)), .int (xs (i + 2)), .int (xs (i + 3))]) (rest := []) 3 S C.1 C.2.1 C.2.2.1 C.2.2.2.2.1 (c_X7_line l D cy aC MC _ _ _ r e1) gL_law_X7_line rfl (by decide +kernel) (by decide) shC_0 rfl rfl rfl hl.1 rfl (Nat.le_of_ble_eq_true rfl) dL_law_304 hf) (fun H locs C => ?_)
  refine lv_aload_n S.1 S.2.1 dL_law_307 rfl (lv_at hl 2 rfl) ?_
  refine lArg 1 S hX hbl hL C.S hl (by omega) (by decide) dL_law_308 dL_law_309 dL_law_310 dL_law_311 dL_law_312 ?_
  refine lArg 2 S hX hbl hL C.S hl (by omega) (by decide) dL_law_313 dL_law_314 dL_law_315 dL_law_316 dL_law_317 ?_
  refine lArg 3 S hX hbl hL C.S hl (by omega) (by decide) dL_law_318 dL_law_319 dL_law_320 dL_law_321 dL_law_322 ?_
  refine lC_lR C (lRV (k := 0) (ci := 7) (r := (RX8, TX8, 34)) (As := [.int (xs (i + 1)), .int (xs (i + 2)), .int (xs (i + 3))]) (rest := [.long r]) 3 S C.1 C.2.1 C.2.2.2.1 C.2.2.2.2.2.1 (c_X8_line l D cy aR MR _ _ _ r e2) gL_law_X8_line rfl (by decide +kernel) (by decide) shR_0 rfl rfl rfl hl.1 rfl (Nat.le_of_ble_eq_true rfl) dL_law_323 hf) (fun H locs C => ?_)
  refine W.lcmp S.1 S.2.1 dL_law_326 ?_
  exact lv_if_eq (tgt := 939) S.1 S.2.1 dL_law_327 (by decide) (fun _ => kk MC MR H locs C h) (fun cq => absurd (cmp_eq.mpr rfl) cq)
set_option maxHeartbeats 4000000 in
set_option maxRecDepth 100000 in
theorem law_c5 {p : Program} {l : Launch} {e : Env} {s : State} {m : MethodId} {below : List Frame} {meth : Method} {c : Code} {D : va_G} {cy : gCy} {aC aR : Nat → Nat} {b L cells slots i : Nat} {xs : Nat → Int32} {MC MR : gMem} {H : Heap} {locs : List Loc} {ls : Array Slot} {Q : State → Prop} (S : CallFix p m c cL_law 4 s #[Value.ref b] wsL_law RL) (hX : va_X b L xs s s.heap) (hbl : b < s.heap.size) (hL : L ≤ 2560) (hf : cells + 0 ≤ room_1.cells ∧ slots + 0 ≤ room_1.slots) (hi : i + 5 ≤ L) (C : lwI D cy aC aR s MC MR H locs) (h : Inv MC MR) (hl : lv_has ls 4 [(0, .ref b), (1, .ref (aC 0)), (2, .ref (aR 0)), (3, .int (nI i))])
    (kk : ∀ (MC1 MR1 : gMem) (H1 : Heap) (locs1 : List Loc), lwI D cy aC aR s MC1 MR1 H1 locs1 → Inv MC1 MR1 → W p l e room_1 s m #[Value.ref b] below meth c H1 locs1 cells slots Q (F0 m 939 ls [])) : W p l e room_1 s m #[Value.ref b] below meth c H locs cells slots Q (F0 m 332 ls []) := by
  obtain ⟨r, e1, e2⟩ := op_find h (xs (i + 1)) (xs (i + 2))
  refine lv_aload_n S.1 S.2.1 dL_law_332 rfl (lv_at hl 1 rfl) ?_
  refine lArg 1 S hX hbl hL C.S hl (by omega) (by decide) dL_law_333 dL_law_334 dL_law_335 dL_law_336 dL_law_337 ?_
  refine lArg 2 S hX hbl hL C.S hl (by omega) (by decide) dL_law_338 dL_law_339 dL_law_340 dL_law_341 dL_law_342 ?_
  refine lC_iC C (lRV (k := 0) (ci := 6) (r := (RX7, TX7, 9)) (As := [.int (xs (i + 1)), .int (xs (i + 2))]) (rest := []) 2 S C.1 C.2.1 C.2.2.1 C.2.2.2.2.1 (c_X7_find l D cy aC MC _ _ r e1) gL_law_X7_find rfl (by decide +kernel) (by decide) shC_0 rfl rfl rfl hl.1 rfl (Nat.le_of_ble_eq_true rfl) dL_law_343 hf) (fun H locs C => ?_)
  refine lv_aload_n S.1 S.2.1 dL_law_346 rfl (lv_at hl 2 rfl) ?_
  refine lArg 1 S hX hbl hL C.S hl (by omega) (by decide) dL_law_347 dL_law_348 dL_law_349 dL_law_350 dL_law_351 ?_
  refine lArg 2 S hX hbl hL C.S hl (by omega) (by decide) dL_law_352 dL_law_353 dL_law_354 dL_law_355 dL_law_356 ?_
  refine lC_iR C (lRV (k := 0) (ci := 7) (r := (RX8, TX8, 34)) (As := [.int (xs (i + 1)), .int (xs (i + 2))]) (rest := [.int r]) 2 S C.1 C.2.1 C.2.2.2.1 C.2.2.2.2.2.1 (c_X8_find l D cy aR MR _ _ r e2) gL_law_X8_find rfl (by decide +kernel) (by decide) shR_0 rfl rfl rfl hl.1 rfl (Nat.le_of_ble_eq_true rfl) dL_law_357 hf) (fun H locs C => ?_)
  exact lv_icmp_eq (tgt := 939) S.1 S.2.1 dL_law_360 (by decide) (fun _ => kk MC MR H locs C h) (fun cq => absurd rfl cq)
set_option maxHeartbeats 4000000 in
set_option maxRecDepth 100000 in
theorem law_c6 {p : Program} {l : Launch} {e : Env} {s : State} {m : MethodId} {below : List Frame} {meth : Method} {c : Code} {D : va_G} {cy : gCy} {aC aR : Nat → Nat} {b L cells slots i : Nat} {xs : Nat → Int32} {MC MR : gMem} {H : Heap} {locs : List Loc} {ls : Array Slot} {Q : State → Prop} (S : CallFix p m c cL_law 4 s #[Value.ref b] wsL_law RL) (hX : va_X b L xs s s.heap) (hbl : b < s.heap.size) (hL : L ≤ 2560) (hf : cells + 0 ≤ room_1.cells ∧ slots + 0 ≤ room_1.slots) (hi : i + 5 ≤ L) (C : lwI D cy aC aR s MC MR H locs) (h : Inv MC MR) (hl : lv_has ls 4 [(0, .ref b), (1, .ref (aC 0)), (2, .ref (aR 0)), (3, .int (nI i))])
    (kk : ∀ (MC1 MR1 : gMem) (H1 : Heap) (locs1 : List Loc), lwI D cy aC aR s MC1 MR1 H1 locs1 → Inv MC1 MR1 → W p l e room_1 s m #[Value.ref b] below meth c H1 locs1 cells slots Q (F0 m 939 ls [])) : W p l e room_1 s m #[Value.ref b] below meth c H locs cells slots Q (F0 m 365 ls []) := by
  obtain ⟨r, e1, e2⟩ := op_longest h (xs (i + 1)) (xs (i + 2))
  refine lv_aload_n S.1 S.2.1 dL_law_365 rfl (lv_at hl 1 rfl) ?_
  refine lArg 1 S hX hbl hL C.S hl (by omega) (by decide) dL_law_366 dL_law_367 dL_law_368 dL_law_369 dL_law_370 ?_
  refine lArg 2 S hX hbl hL C.S hl (by omega) (by decide) dL_law_371 dL_law_372 dL_law_373 dL_law_374 dL_law_375 ?_
  refine lC_iC C (lRV (k := 0) (ci := 6) (r := (RX7, TX7, 9)) (As := [.int (xs (i + 1)), .int (xs (i + 2))]) (rest := []) 2 S C.1 C.2.1 C.2.2.1 C.2.2.2.2.1 (c_X7_longest l D cy aC MC _ _ r e1) gL_law_X7_longest rfl (by decide +kernel) (by decide) shC_0 rfl rfl rfl hl.1 rfl (Nat.le_of_ble_eq_true rfl) dL_law_376 hf) (fun H locs C => ?_)
  refine lv_aload_n S.1 S.2.1 dL_law_379 rfl (lv_at hl 2 rfl) ?_
  refine lArg 1 S hX hbl hL C.S hl (by omega) (by decide) dL_law_380 dL_law_381 dL_law_382 dL_law_383 dL_law_384 ?_
  refine lArg 2 S hX hbl hL C.S hl (by omega) (by decide) dL_law_385 dL_law_386 dL_law_387 dL_law_388 dL_law_389 ?_
  refine lC_iR C (lRV (k := 0) (ci := 7) (r := (RX8, TX8, 34)) (As := [.int (xs (i + 1)), .int (xs (i + 2))]) (rest := [.int r]) 2 S C.1 C.2.1 C.2.2.2.1 C.2.2.2.2.2.1 (c_X8_longest l D cy aR MR _ _ r e2) gL_law_X8_longest rfl (by decide +kernel) (by decide) shR_0 rfl rfl rfl hl.1 rfl (Nat.le_of_ble_eq_true rfl) dL_law_390 hf) (fun H locs C => ?_)
  exact lv_icmp_eq (tgt := 939) S.1 S.2.1 dL_law_393 (by decide) (fun _ => kk MC MR H locs C h) (fun cq => absurd rfl cq)
set_option maxHeartbeats 4000000 in
set_option maxRecDepth 100000 in
theorem law_c7 {p : Program} {l : Launch} {e : Env} {s : State} {m : MethodId} {below : List Frame} {meth : Method} {c : Code} {D : va_G} {cy : gCy} {aC aR : Nat → Nat} {b L cells slots i : Nat} {xs : Nat → Int32} {MC MR : gMem} {H : Heap} {locs : List Loc} {ls : Array Slot} {Q : State → Prop} (S : CallFix p m c cL_law 4 s #[Value.ref b] wsL_law RL) (hX : va_X b L xs s s.heap) (hbl : b < s.heap.size) (hL : L ≤ 2560) (hf : cells + 0 ≤ room_1.cells ∧ slots + 0 ≤ room_1.slots) (hi : i + 5 ≤ L) (C : lwI D cy aC aR s MC MR H locs) (h : Inv MC MR) (hl : lv_has ls 4 [(0, .ref b), (1, .ref (aC 0)), (2, .ref (aR 0)), (3, .int (nI i))])
    (kk : ∀ (MC1 MR1 : gMem) (H1 : Heap) (locs1 : List Loc), lwI D cy aC aR s MC1 MR1 H1 locs1 → Inv MC1 MR1 → W p l e room_1 s m #[Value.ref b] below meth c H1 locs1 cells slots Q (F0 m 939 ls [])) : W p l e room_1 s m #[Value.ref b] below meth c H locs cells slots Q (F0 m 398 ls []) := by
  obtain ⟨r, MC', MR', e1, e2, h'⟩ := op_least h (xs (i + 1)) (xs (i + 2))
  refine lv_aload_n S.1 S.2.1 dL_law_398 rfl (lv_at hl 1 rfl) ?_
  refine lArg 1 S hX hbl hL C.S hl (by omega) (by decide) dL_law_399 dL_law_400 dL_law_401 dL_law_402 dL_law_403 ?_
  refine lArg 2 S hX hbl hL C.S hl (by omega) (by decide) dL_law_404 dL_law_405 dL_law_406 dL_law_407 dL_law_408 ?_
  refine lC_iC C (lRV (k := 0) (ci := 6) (r := (RX7, TX7, 9)) (As := [.int (xs (i + 1)), .int (xs (i + 2))]) (rest := []) 2 S C.1 C.2.1 C.2.2.1 C.2.2.2.2.1 (c_X7_least l D cy aC MC _ _ (r, MC') e1) gL_law_X7_least rfl (by decide +kernel) (by decide) shC_0 rfl rfl rfl hl.1 rfl (Nat.le_of_ble_eq_true rfl) dL_law_409 hf) (fun H locs C => ?_)
  refine lv_aload_n S.1 S.2.1 dL_law_412 rfl (lv_at hl 2 rfl) ?_
  refine lArg 1 S hX hbl hL C.S hl (by omega) (by decide) dL_law_413 dL_law_414 dL_law_415 dL_law_416 dL_law_417 ?_
  refine lArg 2 S hX hbl hL C.S hl (by omega) (by decide) dL_law_418 dL_law_419 dL_law_420 dL_law_421 dL_law_422 ?_
  refine lC_iR C (lRV (k := 0) (ci := 7) (r := (RX8, TX8, 34)) (As := [.int (xs (i + 1)), .int (xs (i + 2))]) (rest := [.int r]) 2 S C.1 C.2.1 C.2.2.2.1 C.2.2.2.2.2.1 (c_X8_least l D cy aR MR _ _ (r, MR') e2) gL_law_X8_least rfl (by decide +kernel) (by decide) shR_0 rfl rfl rfl hl.1 rfl (Nat.le_of_ble_eq_true rfl) dL_law_423 hf) (fun H locs C => ?_)
  exact lv_icmp_eq (tgt := 939) S.1 S.2.1 dL_law_426 (by decide) (fun _ => kk MC' MR' H locs C h') (fun cq => absurd rfl cq)
set_option maxHeartbeats 4000000 in
set_option maxRecDepth 100000 in
theorem law_c8 {p : Program} {l : Launch} {e : Env} {s : State} {m : MethodId} {below : List Frame} {meth : Method} {c : Code} {D : va_G} {cy : gCy} {aC aR : Nat → Nat} {b L cells slots i : Nat} {xs : Nat → Int32} {MC MR : gMem} {H : Heap} {locs : List Loc} {ls : Array Slot} {Q : State → Prop} (S : CallFix p m c cL_law 4 s #[Value.ref b] wsL_law RL) (hX : va_X b L xs s s.heap) (hbl : b < s.heap.size) (hL : L ≤ 2560) (hf : cells + 0 ≤ room_1.cells ∧ slots + 0 ≤ room_1.slots) (hi : i + 5 ≤ L) (C : lwI D cy aC aR s MC MR H locs) (h : Inv MC MR) (hl : lv_has ls 4 [(0, .ref b), (1, .ref (aC 0)), (2, .ref (aR 0)), (3, .int (nI i))])
    (kk : ∀ (MC1 MR1 : gMem) (H1 : Heap) (locs1 : List Loc), lwI D cy aC aR s MC1 MR1 H1 locs1 → Inv MC1 MR1 → W p l e room_1 s m #[Value.ref b] below meth c H1 locs1 cells slots Q (F0 m 939 ls [])) : W p l e room_1 s m #[Value.ref b] below meth c H locs cells slots Q (F0 m 431 ls []) := by
  obtain ⟨r, MC', MR', e1, e2, h'⟩ := op_set h (xs (i + 1)) (xs (i + 2)) (xs (i + 3))
  refine lv_aload_n S.1 S.2.1 dL_law_431 rfl (lv_at hl 1 rfl) ?_
  refine lArg 1 S hX hbl hL C.S hl (by omega) (by decide) dL_law_432 dL_law_433 dL_law_434 dL_law_435 dL_law_436 ?_
  refine lArg 2 S hX hbl hL C.S hl (by omega) (by decide) dL_law_437 dL_law_438 dL_law_439 dL_law_440 dL_law_441 ?_
  refine lArg 3 S hX hbl hL C.S hl (by omega) (by decide) dL_law_442 dL_law_443 dL_law_444 dL_law_445 dL_law_446 ?_
  refine lC_iC C (lRV (k := 0) (ci := 6) (r := (RX7, TX7, 9)) (As := [.int (xs (i + 1)), .int (xs (i + 2)), .int (xs (i + 3))]) (rest := []) 3 S C.1 C.2.1 C.2.2.1 C.2.2.2.2.1 (c_X7_set l D cy aC MC _ _ _ (r, MC') e1) gL_law_X7_set rfl (by decide +kernel) (by decide) shC_0 rfl rfl rfl hl.1 rfl (Nat.le_of_ble_eq_true rfl) dL_law_447 hf) (fun H locs C => ?_)
  refine lv_aload_n S.1 S.2.1 dL_law_450 rfl (lv_at hl 2 rfl) ?_
  refine lArg 1 S hX hbl hL C.S hl (by omega) (by decide) dL_law_451 dL_law_452 dL_law_453 dL_law_454 dL_law_455 ?_
  refine lArg 2 S hX hbl hL C.S hl (by omega) (by decide) dL_law_456 dL_law_457 dL_law_458 dL_law_459 dL_law_460 ?_
  refine lArg 3 S hX hbl hL C.S hl (by omega) (by decide) dL_law_461 dL_law_462 dL_law_463 dL_law_464 dL_law_465 ?_
  refine lC_iR C (lRV (k := 0) (ci := 7) (r := (RX8, TX8, 34)) (As := [.int (xs (i + 1)), .int (xs (i + 2)), .int (xs (i + 3))]) (rest := [.int r]) 3 S C.1 C.2.1 C.2.2.2.1 C.2.2.2.2.2.1 (c_X8_set l D cy aR MR _ _ _ (r, MR') e2) gL_law_X8_set rfl (by decide +kernel) (by decide) shR_0 rfl rfl rfl hl.1 rfl (Nat.le_of_ble_eq_true rfl) dL_law_466 hf) (fun H locs C => ?_)
  exact lv_icmp_eq (tgt := 939) S.1 S.2.1 dL_law_469 (by decide) (fun _ => kk MC' MR' H locs C h') (fun cq => absurd rfl cq)
set_option maxHeartbeats 4000000 in
set_option maxRecDepth 100000 in
theorem law_c9 {p : Program} {l : Launch} {e : Env} {s : State} {m : MethodId} {below : List Frame} {meth : Method} {c : Code} {D : va_G} {cy : gCy} {aC aR : Nat → Nat} {b L cells slots i : Nat} {xs : Nat → Int32} {MC MR : gMem} {H : Heap} {locs : List Loc} {ls : Array Slot} {Q : State → Prop} (S : CallFix p m c cL_law 4 s #[Value.ref b] wsL_law RL) (hX : va_X b L xs s s.heap) (hbl : b < s.heap.size) (hL : L ≤ 2560) (hf : cells + 0 ≤ room_1.cells ∧ slots + 0 ≤ room_1.slots) (hi : i + 5 ≤ L) (C : lwI D cy aC aR s MC MR H locs) (h : Inv MC MR) (hl : lv_has ls 4 [(0, .ref b), (1, .ref (aC 0)), (2, .ref (aR 0)), (3, .int (nI i))])
    (kk : ∀ (MC1 MR1 : gMem) (H1 : Heap) (locs1 : List Loc), lwI D cy aC aR s MC1 MR1 H1 locs1 → Inv MC1 MR1 → W p l e room_1 s m #[Value.ref b] below meth c H1 locs1 cells slots Q (F0 m 939 ls [])) : W p l e room_1 s m #[Value.ref b] below meth c H locs cells slots Q (F0 m 474 ls []) := by
  obtain ⟨r, MC', MR', e1, e2, h'⟩ := op_spans h (xs (i + 1))
  refine lv_aload_n S.1 S.2.1 dL_law_474 rfl (lv_at hl 1 rfl) ?_
  refine lArg 1 S hX hbl hL C.S hl (by omega) (by decide) dL_law_475 dL_law_476 dL_law_477 dL_law_478 dL_law_479 ?_
  refine lC_iC C (lRV (k := 0) (ci := 6) (r := (RX7, TX7, 9)) (As := [.int (xs (i + 1))]) (rest := []) 1 S C.1 C.2.1 C.2.2.1 C.2.2.2.2.1 (c_X7_spans l D cy aC MC _ (r, MC') e1) gL_law_X7_spans rfl (by decide +kernel) (by decide) shC_0 rfl rfl rfl hl.1 rfl (Nat.le_of_ble_eq_true rfl) dL_law_480 hf) (fun H locs C => ?_)
  refine lv_aload_n S.1 S.2.1 dL_law_483 rfl (lv_at hl 2 rfl) ?_
  refine lArg 1 S hX hbl hL C.S hl (by omega) (by decide) dL_law_484 dL_law_485 dL_law_486 dL_law_487 dL_law_488 ?_
  refine lC_iR C (lRV (k := 0) (ci := 7) (r := (RX8, TX8, 34)) (As := [.int (xs (i + 1))]) (rest := [.int r]) 1 S C.1 C.2.1 C.2.2.2.1 C.2.2.2.2.2.1 (c_X8_spans l D cy aR MR _ (r, MR') e2) gL_law_X8_spans rfl (by decide +kernel) (by decide) shR_0 rfl rfl rfl hl.1 rfl (Nat.le_of_ble_eq_true rfl) dL_law_489 hf) (fun H locs C => ?_)
  exact lv_icmp_eq (tgt := 939) S.1 S.2.1 dL_law_492 (by decide) (fun _ => kk MC' MR' H locs C h') (fun cq => absurd rfl cq)
set_option maxHeartbeats 4000000 in
set_option maxRecDepth 100000 in
theorem law_c10 {p : Program} {l : Launch} {e : Env} {s : State} {m : MethodId} {below : List Frame} {meth : Method} {c : Code} {D : va_G} {cy : gCy} {aC aR : Nat → Nat} {b L cells slots i : Nat} {xs : Nat → Int32} {MC MR : gMem} {H : Heap} {locs : List Loc} {ls : Array Slot} {Q : State → Prop} (S : CallFix p m c cL_law 4 s #[Value.ref b] wsL_law RL) (hX : va_X b L xs s s.heap) (hbl : b < s.heap.size) (hL : L ≤ 2560) (hf : cells + 0 ≤ room_1.cells ∧ slots + 0 ≤ room_1.slots) (hi : i + 5 ≤ L) (C : lwI D cy aC aR s MC MR H locs) (h : Inv MC MR) (hl : lv_has ls 4 [(0, .ref b), (1, .ref (aC 0)), (2, .ref (aR 0)), (3, .int (nI i))])
    (kk : ∀ (MC1 MR1 : gMem) (H1 : Heap) (locs1 : List Loc), lwI D cy aC aR s MC1 MR1 H1 locs1 → Inv MC1 MR1 → W p l e room_1 s m #[Value.ref b] below meth c H1 locs1 cells slots Q (F0 m 939 ls [])) : W p l e room_1 s m #[Value.ref b] below meth c H locs cells slots Q (F0 m 497 ls []) := by
  obtain ⟨r, MC', MR', e1, e2, h'⟩ := op_span h (xs (i + 1)) (xs (i + 2)) (xs (i + 3))
  refine lv_aload_n S.1 S.2.1 dL_law_497 rfl (lv_at hl 1 rfl) ?_
  refine lArg 1 S hX hbl hL C.S hl (by omega) (by decide) dL_law_498 dL_law_499 dL_law_500 dL_law_501 dL_law_502 ?_
  refine lArg 2 S hX hbl hL C.S hl (by omega) (by decide) dL_law_503 dL_law_504 dL_law_505 dL_law_506 dL_law_507 ?_
  refine lArg 3 S hX hbl hL C.S hl (by omega) (by decide) dL_law_508 dL_law_509 dL_law_510 dL_law_511 dL_law_512 ?_
  refine lC_lC C (lRV (k := 0) (ci := 6) (r := (RX7, TX7, 9)) (As := [.int (xs (i + 1)), .int (xs (i + 2)), .int (xs (i + 3))]) (rest := []) 3 S C.1 C.2.1 C.2.2.1 C.2.2.2.2.1 (c_X7_span l D cy aC MC _ _ _ (r, MC') e1) gL_law_X7_span rfl (by decide +kernel) (by decide) shC_0 rfl rfl rfl hl.1 rfl (Nat.le_of_ble_eq_true rfl) dL_law_513 hf) (fun H locs C => ?_)
  refine lv_aload_n S.1 S.2.1 dL_law_516 rfl (lv_at hl 2 rfl) ?_
  refine lArg 1 S hX hbl hL C.S hl (by omega) (by decide) dL_law_517 dL_law_518 dL_law_519 dL_law_520 dL_law_521 ?_
  refine lArg 2 S hX hbl hL C.S hl (by omega) (by decide) dL_law_522 dL_law_523 dL_law_524 dL_law_525 dL_law_526 ?_
  refine lArg 3 S hX hbl hL C.S hl (by omega) (by decide) dL_law_527 dL_law_528 dL_law_529 dL_law_530 dL_law_531 ?_
  refine lC_lR C (lRV (k := 0) (ci := 7) (r := (RX8, TX8, 34)) (As := [.int (xs (i + 1)), .int (xs (i + 2)), .int (xs (i + 3))]) (rest := [.long r]) 3 S C.1 C.2.1 C.2.2.2.1 C.2.2.2.2.2.1 (c_X8_span l D cy aR MR _ _ _ (r, MR') e2) gL_law_X8_span rfl (by decide +kernel) (by decide) shR_0 rfl rfl rfl hl.1 rfl (Nat.le_of_ble_eq_true rfl) dL_law_532 hf) (fun H locs C => ?_)
  refine W.lcmp S.1 S.2.1 dL_law_535 ?_
  exact lv_if_eq (tgt := 939) S.1 S.2.1 dL_law_536 (by decide) (fun _ => kk MC' MR' H locs C h') (fun cq => absurd (cmp_eq.mpr rfl) cq)
