theorem kiX8_makeLeast_X8 : ∀ w ∈ wsX80, w ∈ wsX8_makeLeast := by decide +kernel
theorem kfX8_makeLeast_38 : Cond.fieldLink RX8 38 "PrefixLeaderModel" "here" "[J" ∈ wsX8_makeLeast := by decide +kernel
theorem kfX8_makeLeast_41 : Cond.fieldLink RX8 41 "PrefixLeaderModel" "comes" "[I" ∈ wsX8_makeLeast := by decide +kernel
theorem kfX8_makeLeast_186 : Cond.fieldLink RX8 186 "PrefixLeaderModel" "madeMany" "I" ∈ wsX8_makeLeast := by decide +kernel
theorem kfX8_makeLeast_44 : Cond.fieldLink RX8 44 "PrefixLeaderModel" "next" "[J" ∈ wsX8_makeLeast := by decide +kernel
theorem kfX8_makeLeast_26 : Cond.fieldLink RX8 26 "PrefixLeaderModel" "led" "[I" ∈ wsX8_makeLeast := by decide +kernel
theorem kfX8_makeLeast_47 : Cond.fieldLink RX8 47 "PrefixLeaderModel" "nextComes" "[I" ∈ wsX8_makeLeast := by decide +kernel
theorem kfX8_makeLeast_50 : Cond.fieldLink RX8 50 "PrefixLeaderModel" "madeAddress" "[J" ∈ wsX8_makeLeast := by decide +kernel
theorem kfX8_makeLeast_53 : Cond.fieldLink RX8 53 "PrefixLeaderModel" "madeBits" "[I" ∈ wsX8_makeLeast := by decide +kernel
theorem kfX8_makeLeast_56 : Cond.fieldLink RX8 56 "PrefixLeaderModel" "madeGoal" "[I" ∈ wsX8_makeLeast := by decide +kernel
theorem kiX8_becomes_X8 : ∀ w ∈ wsX80, w ∈ wsX8_becomes := by decide +kernel
theorem kfX8_becomes_7 : Cond.fieldLink RX8 7 "PrefixLeaderModel" "many" "[I" ∈ wsX8_becomes := by decide +kernel
theorem kfX8_becomes_186 : Cond.fieldLink RX8 186 "PrefixLeaderModel" "madeMany" "I" ∈ wsX8_becomes := by decide +kernel
theorem kfX8_becomes_50 : Cond.fieldLink RX8 50 "PrefixLeaderModel" "madeAddress" "[J" ∈ wsX8_becomes := by decide +kernel
theorem kfX8_becomes_53 : Cond.fieldLink RX8 53 "PrefixLeaderModel" "madeBits" "[I" ∈ wsX8_becomes := by decide +kernel
theorem kfX8_becomes_56 : Cond.fieldLink RX8 56 "PrefixLeaderModel" "madeGoal" "[I" ∈ wsX8_becomes := by decide +kernel
theorem kiX8_cover_X8 : ∀ w ∈ wsX80, w ∈ wsX8_cover := by decide +kernel
theorem kfX8_cover_196 : Cond.fieldLink RX8 196 "PrefixLeaderModel" "pieces" "I" ∈ wsX8_cover := by decide +kernel
theorem kfX8_cover_59 : Cond.fieldLink RX8 59 "PrefixLeaderModel" "pieceAddress" "[J" ∈ wsX8_cover := by decide +kernel
theorem kfX8_cover_62 : Cond.fieldLink RX8 62 "PrefixLeaderModel" "pieceBits" "[I" ∈ wsX8_cover := by decide +kernel
theorem kiX8_piece_X8 : ∀ w ∈ wsX80, w ∈ wsX8_piece := by decide +kernel
theorem kfX8_piece_196 : Cond.fieldLink RX8 196 "PrefixLeaderModel" "pieces" "I" ∈ wsX8_piece := by decide +kernel
theorem kcX8_piece_124 : Cond.constantLong RX8 124 (-1 : Int64) ∈ wsX8_piece := by decide +kernel
theorem kfX8_piece_62 : Cond.fieldLink RX8 62 "PrefixLeaderModel" "pieceBits" "[I" ∈ wsX8_piece := by decide +kernel
theorem kfX8_piece_59 : Cond.fieldLink RX8 59 "PrefixLeaderModel" "pieceAddress" "[J" ∈ wsX8_piece := by decide +kernel
theorem kiX8_step_X8 : ∀ w ∈ wsX80, w ∈ wsX8_step := by decide +kernel
theorem kfX8_step_65 : Cond.fieldLink RX8 65 "PrefixLeaderModel" "stepKind" "[I" ∈ wsX8_step := by decide +kernel
theorem kfX8_step_199 : Cond.fieldLink RX8 199 "PrefixLeaderModel" "stepMany" "I" ∈ wsX8_step := by decide +kernel
theorem kfX8_step_68 : Cond.fieldLink RX8 68 "PrefixLeaderModel" "stepAddress" "[J" ∈ wsX8_step := by decide +kernel
theorem kfX8_step_71 : Cond.fieldLink RX8 71 "PrefixLeaderModel" "stepBits" "[I" ∈ wsX8_step := by decide +kernel
theorem kfX8_step_74 : Cond.fieldLink RX8 74 "PrefixLeaderModel" "stepGoal" "[I" ∈ wsX8_step := by decide +kernel
theorem kiX8_way_X8 : ∀ w ∈ wsX80, w ∈ wsX8_way := by decide +kernel
theorem kfX8_way_202 : Cond.fieldLink RX8 202 "PrefixLeaderModel" "hasWay" "Z" ∈ wsX8_way := by decide +kernel
theorem kfX8_way_199 : Cond.fieldLink RX8 199 "PrefixLeaderModel" "stepMany" "I" ∈ wsX8_way := by decide +kernel
theorem kfX8_way_7 : Cond.fieldLink RX8 7 "PrefixLeaderModel" "many" "[I" ∈ wsX8_way := by decide +kernel
theorem kfX8_way_209 : Cond.fieldLink RX8 209 "PrefixLeaderModel" "wayMany" "I" ∈ wsX8_way := by decide +kernel
theorem kfX8_way_13 : Cond.fieldLink RX8 13 "PrefixLeaderModel" "address" "[J" ∈ wsX8_way := by decide +kernel
theorem kfX8_way_17 : Cond.fieldLink RX8 17 "PrefixLeaderModel" "bits" "[I" ∈ wsX8_way := by decide +kernel
theorem kfX8_way_20 : Cond.fieldLink RX8 20 "PrefixLeaderModel" "goal" "[I" ∈ wsX8_way := by decide +kernel
theorem kfX8_way_77 : Cond.fieldLink RX8 77 "PrefixLeaderModel" "wayAddress" "[J" ∈ wsX8_way := by decide +kernel
theorem kfX8_way_80 : Cond.fieldLink RX8 80 "PrefixLeaderModel" "wayBits" "[I" ∈ wsX8_way := by decide +kernel
theorem kfX8_way_83 : Cond.fieldLink RX8 83 "PrefixLeaderModel" "wayGoal" "[I" ∈ wsX8_way := by decide +kernel
theorem kiX8_step__X8 : ∀ w ∈ wsX80, w ∈ wsX8_step_ := by decide +kernel
theorem kfX8_step__202 : Cond.fieldLink RX8 202 "PrefixLeaderModel" "hasWay" "Z" ∈ wsX8_step_ := by decide +kernel
theorem kcX8_step__124 : Cond.constantLong RX8 124 (-1 : Int64) ∈ wsX8_step_ := by decide +kernel
theorem kfX8_step__199 : Cond.fieldLink RX8 199 "PrefixLeaderModel" "stepMany" "I" ∈ wsX8_step_ := by decide +kernel
theorem kfX8_step__65 : Cond.fieldLink RX8 65 "PrefixLeaderModel" "stepKind" "[I" ∈ wsX8_step_ := by decide +kernel
theorem kfX8_step__68 : Cond.fieldLink RX8 68 "PrefixLeaderModel" "stepAddress" "[J" ∈ wsX8_step_ := by decide +kernel
theorem kfX8_step__71 : Cond.fieldLink RX8 71 "PrefixLeaderModel" "stepBits" "[I" ∈ wsX8_step_ := by decide +kernel
theorem kfX8_step__74 : Cond.fieldLink RX8 74 "PrefixLeaderModel" "stepGoal" "[I" ∈ wsX8_step_ := by decide +kernel
def mX8_makeLeast_285 (k25 : gMem → Int32 → Int32 → Int32 → Option (Int32 × gMem)) (k232 : gMem → Int32 → Int32 → Int32 → Int32 → Int32 → Option (Int32 × gMem)) (M : gMem) (x1 : Int32) (x2 : Int32) (x3 : Int32) (x4 : Int32) (x5 : Int32) : Option (Int32 × gMem) := ck (inb x5 1200) <| ck (inb x2 600) <| nmd (sJ M 10 x2.toNatClampNeg (M.2 12 x5.toNatClampNeg)) fun M3 => ck (inb x5 1200) <| ck (inb x2 600) <| nmd (sI M3 11 x2.toNatClampNeg (M3.1 13 x5.toNatClampNeg)) fun M6 => nmd (x2 + (1 : Int32)) fun y7 => nmd (x5 + (1 : Int32)) fun y8 => k232 M6 x1 y7 x3 x4 y8
def mX8_makeLeast_232 (k25 : gMem → Int32 → Int32 → Int32 → Option (Int32 × gMem)) : Nat → gMem → Int32 → Int32 → Int32 → Int32 → Int32 → Option (Int32 × gMem)
  | 0, _, _, _, _, _, _ => none
  | n + 1, M, x1, x2, x3, x4, x5 => if x4 ≤ x5 then (nmd (x3 + (1 : Int32)) fun y2 => k25 M x1 x2 y2) else (ck (inb x5 1200) <| (mX8_isOne M (M.2 12 x5.toNatClampNeg) (x3 + (1 : Int32))).bind fun r4 => if r4 = 0 then (mX8_makeLeast_285 k25 (mX8_makeLeast_232 k25 n) M x1 x2 x3 x4 x5) else (ck (inb x5 1200) <| (mX8_spanOf M (M.2 12 x5.toNatClampNeg)).bind fun r7 => ck (inb r7 600) <| ck (inb x5 1200) <| if (M.1 6 r7.toNatClampNeg) = (M.1 13 x5.toNatClampNeg) then (nmd (x5 + (1 : Int32)) fun y11 => mX8_makeLeast_232 k25 n M x1 x2 x3 x4 y11) else (mX8_makeLeast_285 k25 (mX8_makeLeast_232 k25 n) M x1 x2 x3 x4 x5)))
def mX8_makeLeast_143 (k25 : gMem → Int32 → Int32 → Int32 → Option (Int32 × gMem)) (k41 : gMem → Int32 → Int32 → Int32 → Int32 → Int32 → Option (Int32 × gMem)) (M : gMem) (x1 : Int32) (x2 : Int32) (x3 : Int32) (x4 : Int32) (x5 : Int32) (x7 : Int32) : Option (Int32 × gMem) := ck (inb x5 600) <| (mX8_isOne M (M.2 10 x5.toNatClampNeg) x3).bind fun r2 => if r2 = 0 then (ck (inb x5 600) <| ck (inb x4 1200) <| nmd (sJ M 12 x4.toNatClampNeg (M.2 10 x5.toNatClampNeg)) fun M6 => ck (inb x4 1200) <| nmd (sI M6 13 x4.toNatClampNeg x7) fun M8 => ck (inb x5 600) <| (mX8_size (x3 + (1 : Int32))).bind fun r10 => ck (inb (x4 + (1 : Int32)) 1200) <| nmd (sJ M8 12 (x4 + (1 : Int32)).toNatClampNeg ((M8.2 10 x5.toNatClampNeg) + r10)) fun M12 => ck (inb (x4 + (1 : Int32)) 1200) <| nmd (sI M12 13 (x4 + (1 : Int32)).toNatClampNeg x7) fun M14 => nmd (x4 + (2 : Int32)) fun y15 => nmd (x5 + (1 : Int32)) fun y16 => k41 M14 x1 x2 x3 y15 y16) else (nmd (x5 + (1 : Int32)) fun y17 => k41 M x1 x2 x3 x4 y17)
def mX8_makeLeast_92 (k25 : gMem → Int32 → Int32 → Int32 → Option (Int32 × gMem)) (k41 : gMem → Int32 → Int32 → Int32 → Int32 → Int32 → Option (Int32 × gMem)) (M : gMem) (x1 : Int32) (x2 : Int32) (x3 : Int32) (x4 : Int32) (x5 : Int32) (z0 : Int32) : Option (Int32 × gMem) := ck (inb x5 600) <| if z0 = (M.1 11 x5.toNatClampNeg) then (mX8_makeLeast_143 k25 k41 M x1 x2 x3 x4 x5 z0) else (if (64 : Int32) ≤ x1 then (nmd (x1 + (1 : Int32)) fun y4 => mX8_makeLeast_143 k25 k41 M y4 x2 x3 x4 x5 z0) else (ck (inb x5 600) <| ck (inb x1 64) <| nmd (sJ M 14 x1.toNatClampNeg (M.2 10 x5.toNatClampNeg)) fun M7 => ck (inb x1 64) <| nmd (sI M7 15 x1.toNatClampNeg x3) fun M9 => ck (inb x1 64) <| nmd (sI M9 16 x1.toNatClampNeg z0) fun M11 => nmd (x1 + (1 : Int32)) fun y12 => mX8_makeLeast_143 k25 k41 M11 y12 x2 x3 x4 x5 z0))
def mX8_makeLeast_41 (k25 : gMem → Int32 → Int32 → Int32 → Option (Int32 × gMem)) : Nat → gMem → Int32 → Int32 → Int32 → Int32 → Int32 → Option (Int32 × gMem)
  | 0, _, _, _, _, _, _ => none
  | n + 1, M, x1, x2, x3, x4, x5 => if x2 ≤ x5 then (mX8_makeLeast_232 k25 FU M x1 (0 : Int32) x3 x4 (0 : Int32)) else (ck (inb x5 600) <| (mX8_setOf M (M.2 10 x5.toNatClampNeg) x3).bind fun r3 => ck (inb x5 600) <| if ((r3 >>> ((M.1 11 x5.toNatClampNeg) &&& 31)) &&& (1 : Int32)) = (1 : Int32) then (ck (inb x5 600) <| mX8_makeLeast_92 k25 (mX8_makeLeast_41 k25 n) M x1 x2 x3 x4 x5 (M.1 11 x5.toNatClampNeg)) else ((mX8_lowest r3).bind fun r6 => mX8_makeLeast_92 k25 (mX8_makeLeast_41 k25 n) M x1 x2 x3 x4 x5 r6))
def mX8_makeLeast_25 : Nat → gMem → Int32 → Int32 → Int32 → Option (Int32 × gMem)
  | 0, _, _, _, _ => none
  | n + 1, M, x1, x2, x3 => if (32 : Int32) < x3 then (nmd (sI M 0 14 x1) fun M2 => some (x1, M2)) else (if x2 ≤ 0 then (nmd (sI M 0 14 x1) fun M4 => some (x1, M4)) else (mX8_makeLeast_41 (mX8_makeLeast_25 n) FU M x1 x2 x3 (0 : Int32) (0 : Int32)))
def mX8_makeLeast (M : gMem) : Option (Int32 × gMem) := (mX8_makeSets M).bind fun r1 => ck (inb (0 : Int32) 600) <| nmd (sJ r1 10 (0 : Int32).toNatClampNeg (0 : Int64)) fun M3 => ck (inb (0 : Int32) 600) <| nmd (sI M3 11 (0 : Int32).toNatClampNeg (16 : Int32)) fun M5 => mX8_makeLeast_25 FU M5 (0 : Int32) (1 : Int32) (0 : Int32)
set_option maxHeartbeats 4000000 in
set_option maxRecDepth 100000 in
theorem wX8_makeLeast_285 {p : Program} {l : Launch} {e : Env} {s : State} {m : MethodId} {args : Array Value} {below : List Frame} {meth : Method} {c : Code} {D : va_G} {cy : gCy} {ad : Nat → Nat} {r0 : (Int32 × gMem)} (S : CallFix p m c cX8_makeLeast 8 s args wsX8_makeLeast RX8) (hr : meth.sig.returnType = (some .int)) (hlk : meth.locks = false) {k25 : gMem → Int32 → Int32 → Int32 → Option (Int32 × gMem)} (kk25 : ∀ (M : gMem) (H : Heap) (locs : List Loc), gW shR D cy ad s s.heap M H locs → ∀ (x1 : Int32) (x2 : Int32) (x3 : Int32), ∀ (ls : Array Slot), lv_has ls 8 [(0, .ref (ad 0)), (1, .int x1), (2, .int x2), (3, .int x3)] → k25 M x1 x2 x3 = some r0 → W p l e (gR 5 117) s m args below meth c H locs 0 0 (MQ below (gQi shR D cy ad r0.1 r0.2) args s 0 0 (gA shR ad)) (F0 m 25 ls [])) {k232 : gMem → Int32 → Int32 → Int32 → Int32 → Int32 → Option (Int32 × gMem)} (kk232 : ∀ (M : gMem) (H : Heap) (locs : List Loc), gW shR D cy ad s s.heap M H locs → ∀ (x1 : Int32) (x2 : Int32) (x3 : Int32) (x4 : Int32) (x5 : Int32), ∀ (ls : Array Slot), lv_has ls 8 [(0, .ref (ad 0)), (1, .int x1), (2, .int x2), (3, .int x3), (4, .int x4), (5, .int x5)] → k232 M x1 x2 x3 x4 x5 = some r0 → W p l e (gR 5 117) s m args below meth c H locs 0 0 (MQ below (gQi shR D cy ad r0.1 r0.2) args s 0 0 (gA shR ad)) (F0 m 232 ls [])) : ∀ (M : gMem) (H : Heap) (locs : List Loc), gW shR D cy ad s s.heap M H locs → ∀ (x1 : Int32) (x2 : Int32) (x3 : Int32) (x4 : Int32) (x5 : Int32), ∀ (ls : Array Slot), lv_has ls 8 [(0, .ref (ad 0)), (1, .int x1), (2, .int x2), (3, .int x3), (4, .int x4), (5, .int x5)] → mX8_makeLeast_285 k25 k232 M x1 x2 x3 x4 x5 = some r0 → W p l e (gR 5 117) s m args below meth c H locs 0 0 (MQ below (gQi shR D cy ad r0.1 r0.2) args s 0 0 (gA shR ad)) (F0 m 285 ls []) := by
  intro M H locs C x1 x2 x3 x4 x5 ls hl hm
  rw [mX8_makeLeast_285] at hm
  refine lv_aload_n S.1 S.2.1 dX8_makeLeast_285 rfl (lv_at hl 0 rfl) ?_
  refine g_get (k := 0) (ci := 7) (f := 10) (v := .ref (ad 10))  S C kiX8_makeLeast_X8 kfX8_makeLeast_38 rfl (by decide) shR_0 rfl rfl dX8_makeLeast_286 ?_
  refine lv_iload_n S.1 S.2.1 dX8_makeLeast_289 rfl (lv_at hl 2 rfl) ?_
  refine lv_aload_n S.1 S.2.1 dX8_makeLeast_290 rfl (lv_at hl 0 rfl) ?_
  refine g_get (k := 0) (ci := 7) (f := 12) (v := .ref (ad 12))  S C kiX8_makeLeast_X8 kfX8_makeLeast_44 rfl (by decide) shR_0 rfl rfl dX8_makeLeast_291 ?_
  refine lv_iload S.1 S.2.1 dX8_makeLeast_294 (lv_at hl 5 rfl) ?_
  obtain ⟨h1, hm⟩ := ck_ok hm
  refine g_lald S C (k := 12) shR_12 h1 dX8_makeLeast_296 ?_
  obtain ⟨h2, hm⟩ := ck_ok hm
  obtain ⟨M3, eM3, hm⟩ := nmd_ok hm
  refine g_last S C (k := 10) shR_10 h2 dX8_makeLeast_297 (fun H locs C => ?_)
  rw [← eM3] at C
  refine lv_aload_n S.1 S.2.1 dX8_makeLeast_298 rfl (lv_at hl 0 rfl) ?_
  refine g_get (k := 0) (ci := 7) (f := 11) (v := .ref (ad 11))  S C kiX8_makeLeast_X8 kfX8_makeLeast_41 rfl (by decide) shR_0 rfl rfl dX8_makeLeast_299 ?_
  refine lv_iload_n S.1 S.2.1 dX8_makeLeast_302 rfl (lv_at hl 2 rfl) ?_
  refine lv_aload_n S.1 S.2.1 dX8_makeLeast_303 rfl (lv_at hl 0 rfl) ?_
  refine g_get (k := 0) (ci := 7) (f := 13) (v := .ref (ad 13))  S C kiX8_makeLeast_X8 kfX8_makeLeast_47 rfl (by decide) shR_0 rfl rfl dX8_makeLeast_304 ?_
  refine lv_iload S.1 S.2.1 dX8_makeLeast_307 (lv_at hl 5 rfl) ?_
  obtain ⟨h4, hm⟩ := ck_ok hm
  refine g_iald S C (k := 13) shR_13 h4 dX8_makeLeast_309 ?_
  obtain ⟨h5, hm⟩ := ck_ok hm
  obtain ⟨M6, eM6, hm⟩ := nmd_ok hm
  refine g_iast S C (k := 11) shR_11 h5 dX8_makeLeast_310 (fun H locs C => ?_)
  rw [← eM6] at C
  obtain ⟨y7, ey7, hm⟩ := nmd_ok hm
  refine lv_iinc (v := y7) (lv' := [(2, .int y7), (0, .ref (ad 0)), (1, .int x1), (3, .int x3), (4, .int x4), (5, .int x5)]) S.1 S.2.1 dX8_makeLeast_311 hl (k := 2) rfl (by rw [ey7]; rfl) (by decide) rfl (fun ls hl => ?_)
  obtain ⟨y8, ey8, hm⟩ := nmd_ok hm
  refine lv_iinc (v := y8) (lv' := [(5, .int y8), (2, .int y7), (0, .ref (ad 0)), (1, .int x1), (3, .int x3), (4, .int x4)]) S.1 S.2.1 dX8_makeLeast_314 hl (k := 5) rfl (by rw [ey8]; rfl) (by decide) rfl (fun ls hl => ?_)
  refine lv_goto (tgt := 232) S.1 S.2.1 dX8_makeLeast_317 (by decide) ?_
  exact kk232 M6 _ _ C x1 y7 x3 x4 y8 ls (lv_sub hl [2, 3, 1, 4, 5, 0] rfl) hm
set_option maxHeartbeats 4000000 in
set_option maxRecDepth 100000 in
theorem wX8_makeLeast_232 {p : Program} {l : Launch} {e : Env} {s : State} {m : MethodId} {args : Array Value} {below : List Frame} {meth : Method} {c : Code} {D : va_G} {cy : gCy} {ad : Nat → Nat} {r0 : (Int32 × gMem)} (S : CallFix p m c cX8_makeLeast 8 s args wsX8_makeLeast RX8) (hr : meth.sig.returnType = (some .int)) (hlk : meth.locks = false) {k25 : gMem → Int32 → Int32 → Int32 → Option (Int32 × gMem)} (kk25 : ∀ (M : gMem) (H : Heap) (locs : List Loc), gW shR D cy ad s s.heap M H locs → ∀ (x1 : Int32) (x2 : Int32) (x3 : Int32), ∀ (ls : Array Slot), lv_has ls 8 [(0, .ref (ad 0)), (1, .int x1), (2, .int x2), (3, .int x3)] → k25 M x1 x2 x3 = some r0 → W p l e (gR 5 117) s m args below meth c H locs 0 0 (MQ below (gQi shR D cy ad r0.1 r0.2) args s 0 0 (gA shR ad)) (F0 m 25 ls [])) : ∀ (n : Nat), ∀ (M : gMem) (H : Heap) (locs : List Loc), gW shR D cy ad s s.heap M H locs → ∀ (x1 : Int32) (x2 : Int32) (x3 : Int32) (x4 : Int32) (x5 : Int32), ∀ (ls : Array Slot), lv_has ls 8 [(0, .ref (ad 0)), (1, .int x1), (2, .int x2), (3, .int x3), (4, .int x4), (5, .int x5)] → mX8_makeLeast_232 k25 n M x1 x2 x3 x4 x5 = some r0 → W p l e (gR 5 117) s m args below meth c H locs 0 0 (MQ below (gQi shR D cy ad r0.1 r0.2) args s 0 0 (gA shR ad)) (F0 m 232 ls []) := by
  intro n
  induction n with
  | zero => intro M H locs C x1 x2 x3 x4 x5 ls hl hm; exact absurd hm (by simp [mX8_makeLeast_232])
  | succ n ih =>
    intro M H locs C x1 x2 x3 x4 x5 ls hl hm
    rw [mX8_makeLeast_232] at hm
    refine lv_iload S.1 S.2.1 dX8_makeLeast_232 (lv_at hl 5 rfl) ?_
    refine lv_iload S.1 S.2.1 dX8_makeLeast_234 (lv_at hl 4 rfl) ?_
    refine lv_icmp_ge (tgt := 320) S.1 S.2.1 dX8_makeLeast_236 (by decide) (fun c1 => ?_) (fun c1 => ?_)
    · rw [if_pos c1] at hm
      obtain ⟨y2, ey2, hm⟩ := nmd_ok hm
      refine lv_iinc (v := y2) (lv' := [(3, .int y2), (0, .ref (ad 0)), (1, .int x1), (2, .int x2), (4, .int x4), (5, .int x5)]) S.1 S.2.1 dX8_makeLeast_320 hl (k := 3) rfl (by rw [ey2]; rfl) (by decide) rfl (fun ls hl => ?_)
      refine lv_goto (tgt := 25) S.1 S.2.1 dX8_makeLeast_323 (by decide) ?_
      exact kk25 M _ _ C x1 x2 y2 ls (lv_sub hl [1, 2, 3, 0] rfl) hm
    · rw [if_neg c1] at hm
      refine lv_aload_n S.1 S.2.1 dX8_makeLeast_239 rfl (lv_at hl 0 rfl) ?_
      refine lv_aload_n S.1 S.2.1 dX8_makeLeast_240 rfl (lv_at hl 0 rfl) ?_
      refine g_get (k := 0) (ci := 7) (f := 12) (v := .ref (ad 12))  S C kiX8_makeLeast_X8 kfX8_makeLeast_44 rfl (by decide) shR_0 rfl rfl dX8_makeLeast_241 ?_
      refine lv_iload S.1 S.2.1 dX8_makeLeast_244 (lv_at hl 5 rfl) ?_
      obtain ⟨h3, hm⟩ := ck_ok hm
      refine g_lald S C (k := 12) shR_12 h3 dX8_makeLeast_246 ?_
      refine lv_iload_n S.1 S.2.1 dX8_makeLeast_247 rfl (lv_at hl 3 rfl) ?_
      refine lv_iconst (v := (1 : Int32)) S.1 S.2.1 dX8_makeLeast_248 (by decide) ?_
      refine lv_iadd S.1 S.2.1 dX8_makeLeast_249 ?_
      obtain ⟨r4, hcr4, hm⟩ := bd_ok hm
      refine gC_i C (gRV (k := 0) (ci := 7) (r := (RX8, TX8, 34)) (As := [.long (M.2 12 x5.toNatClampNeg), .int (x3 + (1 : Int32))]) (rest := []) 2 S C (c_X8_isOne l D cy ad M (M.2 12 x5.toNatClampNeg) (x3 + (1 : Int32)) r4 hcr4) gX8_makeLeast_X8_isOne rfl (by decide +kernel) (by decide) shR_0 rfl rfl rfl hl.1 rfl (Nat.le_of_ble_eq_true rfl) dX8_makeLeast_250) (fun H locs C => ?_)
      refine lv_if_eq (tgt := 285) S.1 S.2.1 dX8_makeLeast_253 (by decide) (fun c5 => ?_) (fun c5 => ?_)
      · rw [if_pos c5] at hm
        exact wX8_makeLeast_285 S hr hlk kk25 ih M _ _ C x1 x2 x3 x4 x5 ls (lv_sub hl [0, 1, 2, 3, 4, 5] rfl) hm
      · rw [if_neg c5] at hm
        refine lv_aload_n S.1 S.2.1 dX8_makeLeast_256 rfl (lv_at hl 0 rfl) ?_
        refine g_get (k := 0) (ci := 7) (f := 6) (v := .ref (ad 6))  S C kiX8_makeLeast_X8 kfX8_makeLeast_26 rfl (by decide) shR_0 rfl rfl dX8_makeLeast_257 ?_
        refine lv_aload_n S.1 S.2.1 dX8_makeLeast_260 rfl (lv_at hl 0 rfl) ?_
        refine lv_aload_n S.1 S.2.1 dX8_makeLeast_261 rfl (lv_at hl 0 rfl) ?_
        refine g_get (k := 0) (ci := 7) (f := 12) (v := .ref (ad 12))  S C kiX8_makeLeast_X8 kfX8_makeLeast_44 rfl (by decide) shR_0 rfl rfl dX8_makeLeast_262 ?_
        refine lv_iload S.1 S.2.1 dX8_makeLeast_265 (lv_at hl 5 rfl) ?_
        obtain ⟨h6, hm⟩ := ck_ok hm
        refine g_lald S C (k := 12) shR_12 h6 dX8_makeLeast_267 ?_
        obtain ⟨r7, hcr7, hm⟩ := bd_ok hm
        refine gC_i C (gRV (k := 0) (ci := 7) (r := (RX8, TX8, 34)) (As := [.long (M.2 12 x5.toNatClampNeg)]) (rest := [.ref (ad 6)]) 1 S C (c_X8_spanOf l D cy ad M (M.2 12 x5.toNatClampNeg) r7 hcr7) gX8_makeLeast_X8_spanOf rfl (by decide +kernel) (by decide) shR_0 rfl rfl rfl hl.1 rfl (Nat.le_of_ble_eq_true rfl) dX8_makeLeast_268) (fun H locs C => ?_)
        obtain ⟨h8, hm⟩ := ck_ok hm
        refine g_iald S C (k := 6) shR_6 h8 dX8_makeLeast_271 ?_
        refine lv_aload_n S.1 S.2.1 dX8_makeLeast_272 rfl (lv_at hl 0 rfl) ?_
        refine g_get (k := 0) (ci := 7) (f := 13) (v := .ref (ad 13))  S C kiX8_makeLeast_X8 kfX8_makeLeast_47 rfl (by decide) shR_0 rfl rfl dX8_makeLeast_273 ?_
        refine lv_iload S.1 S.2.1 dX8_makeLeast_276 (lv_at hl 5 rfl) ?_
        obtain ⟨h9, hm⟩ := ck_ok hm
        refine g_iald S C (k := 13) shR_13 h9 dX8_makeLeast_278 ?_
        refine lv_icmp_ne (tgt := 285) S.1 S.2.1 dX8_makeLeast_279 (by decide) (fun c10 => ?_) (fun c10 => ?_)
        · rw [if_neg c10] at hm
          exact wX8_makeLeast_285 S hr hlk kk25 ih M _ _ C x1 x2 x3 x4 x5 ls (lv_sub hl [0, 1, 2, 3, 4, 5] rfl) hm
        · rw [if_pos c10] at hm
          refine lv_goto (tgt := 314) S.1 S.2.1 dX8_makeLeast_282 (by decide) ?_
          obtain ⟨y11, ey11, hm⟩ := nmd_ok hm
          refine lv_iinc (v := y11) (lv' := [(5, .int y11), (0, .ref (ad 0)), (1, .int x1), (2, .int x2), (3, .int x3), (4, .int x4)]) S.1 S.2.1 dX8_makeLeast_314 hl (k := 5) rfl (by rw [ey11]; rfl) (by decide) rfl (fun ls hl => ?_)
          refine lv_goto (tgt := 232) S.1 S.2.1 dX8_makeLeast_317 (by decide) ?_
          exact ih M _ _ C x1 x2 x3 x4 y11 ls (lv_sub hl [1, 2, 3, 4, 5, 0] rfl) hm
set_option maxHeartbeats 4000000 in
set_option maxRecDepth 100000 in
theorem wX8_makeLeast_143 {p : Program} {l : Launch} {e : Env} {s : State} {m : MethodId} {args : Array Value} {below : List Frame} {meth : Method} {c : Code} {D : va_G} {cy : gCy} {ad : Nat → Nat} {r0 : (Int32 × gMem)} (S : CallFix p m c cX8_makeLeast 8 s args wsX8_makeLeast RX8) (hr : meth.sig.returnType = (some .int)) (hlk : meth.locks = false) {k25 : gMem → Int32 → Int32 → Int32 → Option (Int32 × gMem)} (kk25 : ∀ (M : gMem) (H : Heap) (locs : List Loc), gW shR D cy ad s s.heap M H locs → ∀ (x1 : Int32) (x2 : Int32) (x3 : Int32), ∀ (ls : Array Slot), lv_has ls 8 [(0, .ref (ad 0)), (1, .int x1), (2, .int x2), (3, .int x3)] → k25 M x1 x2 x3 = some r0 → W p l e (gR 5 117) s m args below meth c H locs 0 0 (MQ below (gQi shR D cy ad r0.1 r0.2) args s 0 0 (gA shR ad)) (F0 m 25 ls [])) {k41 : gMem → Int32 → Int32 → Int32 → Int32 → Int32 → Option (Int32 × gMem)} (kk41 : ∀ (M : gMem) (H : Heap) (locs : List Loc), gW shR D cy ad s s.heap M H locs → ∀ (x1 : Int32) (x2 : Int32) (x3 : Int32) (x4 : Int32) (x5 : Int32), ∀ (ls : Array Slot), lv_has ls 8 [(0, .ref (ad 0)), (1, .int x1), (2, .int x2), (3, .int x3), (4, .int x4), (5, .int x5)] → k41 M x1 x2 x3 x4 x5 = some r0 → W p l e (gR 5 117) s m args below meth c H locs 0 0 (MQ below (gQi shR D cy ad r0.1 r0.2) args s 0 0 (gA shR ad)) (F0 m 41 ls [])) : ∀ (M : gMem) (H : Heap) (locs : List Loc), gW shR D cy ad s s.heap M H locs → ∀ (x1 : Int32) (x2 : Int32) (x3 : Int32) (x4 : Int32) (x5 : Int32) (x7 : Int32), ∀ (ls : Array Slot), lv_has ls 8 [(0, .ref (ad 0)), (1, .int x1), (2, .int x2), (3, .int x3), (4, .int x4), (5, .int x5), (7, .int x7)] → mX8_makeLeast_143 k25 k41 M x1 x2 x3 x4 x5 x7 = some r0 → W p l e (gR 5 117) s m args below meth c H locs 0 0 (MQ below (gQi shR D cy ad r0.1 r0.2) args s 0 0 (gA shR ad)) (F0 m 143 ls []) := by
  intro M H locs C x1 x2 x3 x4 x5 x7 ls hl hm
  rw [mX8_makeLeast_143] at hm
  refine lv_aload_n S.1 S.2.1 dX8_makeLeast_143 rfl (lv_at hl 0 rfl) ?_
  refine lv_aload_n S.1 S.2.1 dX8_makeLeast_144 rfl (lv_at hl 0 rfl) ?_
  refine g_get (k := 0) (ci := 7) (f := 10) (v := .ref (ad 10))  S C kiX8_makeLeast_X8 kfX8_makeLeast_38 rfl (by decide) shR_0 rfl rfl dX8_makeLeast_145 ?_
  refine lv_iload S.1 S.2.1 dX8_makeLeast_148 (lv_at hl 5 rfl) ?_
  obtain ⟨h1, hm⟩ := ck_ok hm
  refine g_lald S C (k := 10) shR_10 h1 dX8_makeLeast_150 ?_
  refine lv_iload_n S.1 S.2.1 dX8_makeLeast_151 rfl (lv_at hl 3 rfl) ?_
  obtain ⟨r2, hcr2, hm⟩ := bd_ok hm
  refine gC_i C (gRV (k := 0) (ci := 7) (r := (RX8, TX8, 34)) (As := [.long (M.2 10 x5.toNatClampNeg), .int x3]) (rest := []) 2 S C (c_X8_isOne l D cy ad M (M.2 10 x5.toNatClampNeg) x3 r2 hcr2) gX8_makeLeast_X8_isOne rfl (by decide +kernel) (by decide) shR_0 rfl rfl rfl hl.1 rfl (Nat.le_of_ble_eq_true rfl) dX8_makeLeast_152) (fun H locs C => ?_)
  refine lv_if_eq (tgt := 161) S.1 S.2.1 dX8_makeLeast_155 (by decide) (fun c3 => ?_) (fun c3 => ?_)
  · rw [if_pos c3] at hm
    refine lv_aload_n S.1 S.2.1 dX8_makeLeast_161 rfl (lv_at hl 0 rfl) ?_
    refine g_get (k := 0) (ci := 7) (f := 12) (v := .ref (ad 12))  S C kiX8_makeLeast_X8 kfX8_makeLeast_44 rfl (by decide) shR_0 rfl rfl dX8_makeLeast_162 ?_
    refine lv_iload S.1 S.2.1 dX8_makeLeast_165 (lv_at hl 4 rfl) ?_
    refine lv_aload_n S.1 S.2.1 dX8_makeLeast_167 rfl (lv_at hl 0 rfl) ?_
    refine g_get (k := 0) (ci := 7) (f := 10) (v := .ref (ad 10))  S C kiX8_makeLeast_X8 kfX8_makeLeast_38 rfl (by decide) shR_0 rfl rfl dX8_makeLeast_168 ?_
    refine lv_iload S.1 S.2.1 dX8_makeLeast_171 (lv_at hl 5 rfl) ?_
    obtain ⟨h4, hm⟩ := ck_ok hm
    refine g_lald S C (k := 10) shR_10 h4 dX8_makeLeast_173 ?_
    obtain ⟨h5, hm⟩ := ck_ok hm
    obtain ⟨M6, eM6, hm⟩ := nmd_ok hm
    refine g_last S C (k := 12) shR_12 h5 dX8_makeLeast_174 (fun H locs C => ?_)
    rw [← eM6] at C
    refine lv_aload_n S.1 S.2.1 dX8_makeLeast_175 rfl (lv_at hl 0 rfl) ?_
    refine g_get (k := 0) (ci := 7) (f := 13) (v := .ref (ad 13))  S C kiX8_makeLeast_X8 kfX8_makeLeast_47 rfl (by decide) shR_0 rfl rfl dX8_makeLeast_176 ?_
    refine lv_iload S.1 S.2.1 dX8_makeLeast_179 (lv_at hl 4 rfl) ?_
    refine lv_iload S.1 S.2.1 dX8_makeLeast_181 (lv_at hl 6 rfl) ?_
    obtain ⟨h7, hm⟩ := ck_ok hm
    obtain ⟨M8, eM8, hm⟩ := nmd_ok hm
    refine g_iast S C (k := 13) shR_13 h7 dX8_makeLeast_183 (fun H locs C => ?_)
    rw [← eM8] at C
    refine lv_aload_n S.1 S.2.1 dX8_makeLeast_184 rfl (lv_at hl 0 rfl) ?_
    refine g_get (k := 0) (ci := 7) (f := 12) (v := .ref (ad 12))  S C kiX8_makeLeast_X8 kfX8_makeLeast_44 rfl (by decide) shR_0 rfl rfl dX8_makeLeast_185 ?_
    refine lv_iload S.1 S.2.1 dX8_makeLeast_188 (lv_at hl 4 rfl) ?_
    refine lv_iconst (v := (1 : Int32)) S.1 S.2.1 dX8_makeLeast_190 (by decide) ?_
    refine lv_iadd S.1 S.2.1 dX8_makeLeast_191 ?_
    refine lv_aload_n S.1 S.2.1 dX8_makeLeast_192 rfl (lv_at hl 0 rfl) ?_
    refine g_get (k := 0) (ci := 7) (f := 10) (v := .ref (ad 10))  S C kiX8_makeLeast_X8 kfX8_makeLeast_38 rfl (by decide) shR_0 rfl rfl dX8_makeLeast_193 ?_
    refine lv_iload S.1 S.2.1 dX8_makeLeast_196 (lv_at hl 5 rfl) ?_
    obtain ⟨h9, hm⟩ := ck_ok hm
    refine g_lald S C (k := 10) shR_10 h9 dX8_makeLeast_198 ?_
    refine lv_iload_n S.1 S.2.1 dX8_makeLeast_199 rfl (lv_at hl 3 rfl) ?_
    refine lv_iconst (v := (1 : Int32)) S.1 S.2.1 dX8_makeLeast_200 (by decide) ?_
    refine lv_iadd S.1 S.2.1 dX8_makeLeast_201 ?_
    obtain ⟨r10, hcr10, hm⟩ := bd_ok hm
    refine gC_l C (gRS (As := [.int (x3 + (1 : Int32))]) (rest := [.long (M8.2 10 x5.toNatClampNeg), .int (x4 + (1 : Int32)), .ref (ad 12)]) 1 S C (c_X8_size l D cy ad M8 (x3 + (1 : Int32)) r10 hcr10) gX8_makeLeast_X8_size rfl (by decide +kernel) (by decide) rfl hl.1 rfl (Nat.le_of_ble_eq_true rfl) dX8_makeLeast_202) (fun H locs C => ?_)
    refine lv_ladd S.1 S.2.1 dX8_makeLeast_205 ?_
    obtain ⟨h11, hm⟩ := ck_ok hm
    obtain ⟨M12, eM12, hm⟩ := nmd_ok hm
    refine g_last S C (k := 12) shR_12 h11 dX8_makeLeast_206 (fun H locs C => ?_)
    rw [← eM12] at C
    refine lv_aload_n S.1 S.2.1 dX8_makeLeast_207 rfl (lv_at hl 0 rfl) ?_
    refine g_get (k := 0) (ci := 7) (f := 13) (v := .ref (ad 13))  S C kiX8_makeLeast_X8 kfX8_makeLeast_47 rfl (by decide) shR_0 rfl rfl dX8_makeLeast_208 ?_
    refine lv_iload S.1 S.2.1 dX8_makeLeast_211 (lv_at hl 4 rfl) ?_
    refine lv_iconst (v := (1 : Int32)) S.1 S.2.1 dX8_makeLeast_213 (by decide) ?_
    refine lv_iadd S.1 S.2.1 dX8_makeLeast_214 ?_
    refine lv_iload S.1 S.2.1 dX8_makeLeast_215 (lv_at hl 6 rfl) ?_
    obtain ⟨h13, hm⟩ := ck_ok hm
    obtain ⟨M14, eM14, hm⟩ := nmd_ok hm
    refine g_iast S C (k := 13) shR_13 h13 dX8_makeLeast_217 (fun H locs C => ?_)
    rw [← eM14] at C
    obtain ⟨y15, ey15, hm⟩ := nmd_ok hm
    refine lv_iinc (v := y15) (lv' := [(4, .int y15), (0, .ref (ad 0)), (1, .int x1), (2, .int x2), (3, .int x3), (5, .int x5), (7, .int x7)]) S.1 S.2.1 dX8_makeLeast_218 hl (k := 4) rfl (by rw [ey15]; rfl) (by decide) rfl (fun ls hl => ?_)
    obtain ⟨y16, ey16, hm⟩ := nmd_ok hm
    refine lv_iinc (v := y16) (lv' := [(5, .int y16), (4, .int y15), (0, .ref (ad 0)), (1, .int x1), (2, .int x2), (3, .int x3), (7, .int x7)]) S.1 S.2.1 dX8_makeLeast_221 hl (k := 5) rfl (by rw [ey16]; rfl) (by decide) rfl (fun ls hl => ?_)
    refine lv_goto (tgt := 41) S.1 S.2.1 dX8_makeLeast_224 (by decide) ?_
    exact kk41 M14 _ _ C x1 x2 x3 y15 y16 ls (lv_sub hl [2, 3, 4, 5, 1, 0] rfl) hm
  · rw [if_neg c3] at hm
    refine lv_goto (tgt := 221) S.1 S.2.1 dX8_makeLeast_158 (by decide) ?_
    obtain ⟨y17, ey17, hm⟩ := nmd_ok hm
    refine lv_iinc (v := y17) (lv' := [(5, .int y17), (0, .ref (ad 0)), (1, .int x1), (2, .int x2), (3, .int x3), (4, .int x4), (7, .int x7)]) S.1 S.2.1 dX8_makeLeast_221 hl (k := 5) rfl (by rw [ey17]; rfl) (by decide) rfl (fun ls hl => ?_)
    refine lv_goto (tgt := 41) S.1 S.2.1 dX8_makeLeast_224 (by decide) ?_
    exact kk41 M _ _ C x1 x2 x3 x4 y17 ls (lv_sub hl [1, 2, 3, 4, 5, 0] rfl) hm
set_option maxHeartbeats 4000000 in
set_option maxRecDepth 100000 in
theorem wX8_makeLeast_92 {p : Program} {l : Launch} {e : Env} {s : State} {m : MethodId} {args : Array Value} {below : List Frame} {meth : Method} {c : Code} {D : va_G} {cy : gCy} {ad : Nat → Nat} {r0 : (Int32 × gMem)} (S : CallFix p m c cX8_makeLeast 8 s args wsX8_makeLeast RX8) (hr : meth.sig.returnType = (some .int)) (hlk : meth.locks = false) {k25 : gMem → Int32 → Int32 → Int32 → Option (Int32 × gMem)} (kk25 : ∀ (M : gMem) (H : Heap) (locs : List Loc), gW shR D cy ad s s.heap M H locs → ∀ (x1 : Int32) (x2 : Int32) (x3 : Int32), ∀ (ls : Array Slot), lv_has ls 8 [(0, .ref (ad 0)), (1, .int x1), (2, .int x2), (3, .int x3)] → k25 M x1 x2 x3 = some r0 → W p l e (gR 5 117) s m args below meth c H locs 0 0 (MQ below (gQi shR D cy ad r0.1 r0.2) args s 0 0 (gA shR ad)) (F0 m 25 ls [])) {k41 : gMem → Int32 → Int32 → Int32 → Int32 → Int32 → Option (Int32 × gMem)} (kk41 : ∀ (M : gMem) (H : Heap) (locs : List Loc), gW shR D cy ad s s.heap M H locs → ∀ (x1 : Int32) (x2 : Int32) (x3 : Int32) (x4 : Int32) (x5 : Int32), ∀ (ls : Array Slot), lv_has ls 8 [(0, .ref (ad 0)), (1, .int x1), (2, .int x2), (3, .int x3), (4, .int x4), (5, .int x5)] → k41 M x1 x2 x3 x4 x5 = some r0 → W p l e (gR 5 117) s m args below meth c H locs 0 0 (MQ below (gQi shR D cy ad r0.1 r0.2) args s 0 0 (gA shR ad)) (F0 m 41 ls [])) : ∀ (M : gMem) (H : Heap) (locs : List Loc), gW shR D cy ad s s.heap M H locs → ∀ (x1 : Int32) (x2 : Int32) (x3 : Int32) (x4 : Int32) (x5 : Int32) (z0 : Int32), ∀ (ls : Array Slot), lv_has ls 8 [(0, .ref (ad 0)), (1, .int x1), (2, .int x2), (3, .int x3), (4, .int x4), (5, .int x5)] → mX8_makeLeast_92 k25 k41 M x1 x2 x3 x4 x5 z0 = some r0 → W p l e (gR 5 117) s m args below meth c H locs 0 0 (MQ below (gQi shR D cy ad r0.1 r0.2) args s 0 0 (gA shR ad)) (F0 m 92 ls [.int z0]) := by
  intro M H locs C x1 x2 x3 x4 x5 z0 ls hl hm
  rw [mX8_makeLeast_92] at hm
  refine lv_istore (lv' := [(7, .int z0), (0, .ref (ad 0)), (1, .int x1), (2, .int x2), (3, .int x3), (4, .int x4), (5, .int x5)]) S.1 S.2.1 dX8_makeLeast_92 hl (by decide) rfl (fun ls hl => ?_)
  refine lv_iload S.1 S.2.1 dX8_makeLeast_94 (lv_at hl 0 rfl) ?_
  refine lv_aload_n S.1 S.2.1 dX8_makeLeast_96 rfl (lv_at hl 1 rfl) ?_
  refine g_get (k := 0) (ci := 7) (f := 11) (v := .ref (ad 11))  S C kiX8_makeLeast_X8 kfX8_makeLeast_41 rfl (by decide) shR_0 rfl rfl dX8_makeLeast_97 ?_
  refine lv_iload S.1 S.2.1 dX8_makeLeast_100 (lv_at hl 6 rfl) ?_
  obtain ⟨h1, hm⟩ := ck_ok hm
  refine g_iald S C (k := 11) shR_11 h1 dX8_makeLeast_102 ?_
  refine lv_icmp_eq (tgt := 143) S.1 S.2.1 dX8_makeLeast_103 (by decide) (fun c2 => ?_) (fun c2 => ?_)
  · rw [if_pos c2] at hm
    exact wX8_makeLeast_143 S hr hlk kk25 kk41 M _ _ C x1 x2 x3 x4 x5 z0 ls (lv_sub hl [1, 2, 3, 4, 5, 6, 0] rfl) hm
  · rw [if_neg c2] at hm
    refine lv_iload_n S.1 S.2.1 dX8_makeLeast_106 rfl (lv_at hl 2 rfl) ?_
    refine lv_bipush (v := (64 : Int32)) S.1 S.2.1 dX8_makeLeast_107 (by decide) ?_
    refine lv_icmp_ge (tgt := 140) S.1 S.2.1 dX8_makeLeast_109 (by decide) (fun c3 => ?_) (fun c3 => ?_)
    · rw [if_pos c3] at hm
      obtain ⟨y4, ey4, hm⟩ := nmd_ok hm
      refine lv_iinc (v := y4) (lv' := [(1, .int y4), (7, .int z0), (0, .ref (ad 0)), (2, .int x2), (3, .int x3), (4, .int x4), (5, .int x5)]) S.1 S.2.1 dX8_makeLeast_140 hl (k := 2) rfl (by rw [ey4]; rfl) (by decide) rfl (fun ls hl => ?_)
      exact wX8_makeLeast_143 S hr hlk kk25 kk41 M _ _ C y4 x2 x3 x4 x5 z0 ls (lv_sub hl [2, 0, 3, 4, 5, 6, 1] rfl) hm
    · rw [if_neg c3] at hm
      refine lv_aload_n S.1 S.2.1 dX8_makeLeast_112 rfl (lv_at hl 1 rfl) ?_
      refine g_get (k := 0) (ci := 7) (f := 15) (v := .ref (ad 14))  S C kiX8_makeLeast_X8 kfX8_makeLeast_50 rfl (by decide) shR_0 rfl rfl dX8_makeLeast_113 ?_
      refine lv_iload_n S.1 S.2.1 dX8_makeLeast_116 rfl (lv_at hl 2 rfl) ?_
      refine lv_aload_n S.1 S.2.1 dX8_makeLeast_117 rfl (lv_at hl 1 rfl) ?_
      refine g_get (k := 0) (ci := 7) (f := 10) (v := .ref (ad 10))  S C kiX8_makeLeast_X8 kfX8_makeLeast_38 rfl (by decide) shR_0 rfl rfl dX8_makeLeast_118 ?_
      refine lv_iload S.1 S.2.1 dX8_makeLeast_121 (lv_at hl 6 rfl) ?_
      obtain ⟨h5, hm⟩ := ck_ok hm
      refine g_lald S C (k := 10) shR_10 h5 dX8_makeLeast_123 ?_
      obtain ⟨h6, hm⟩ := ck_ok hm
      obtain ⟨M7, eM7, hm⟩ := nmd_ok hm
      refine g_last S C (k := 14) shR_14 h6 dX8_makeLeast_124 (fun H locs C => ?_)
      rw [← eM7] at C
      refine lv_aload_n S.1 S.2.1 dX8_makeLeast_125 rfl (lv_at hl 1 rfl) ?_
      refine g_get (k := 0) (ci := 7) (f := 16) (v := .ref (ad 15))  S C kiX8_makeLeast_X8 kfX8_makeLeast_53 rfl (by decide) shR_0 rfl rfl dX8_makeLeast_126 ?_
      refine lv_iload_n S.1 S.2.1 dX8_makeLeast_129 rfl (lv_at hl 2 rfl) ?_
      refine lv_iload_n S.1 S.2.1 dX8_makeLeast_130 rfl (lv_at hl 4 rfl) ?_
      obtain ⟨h8, hm⟩ := ck_ok hm
      obtain ⟨M9, eM9, hm⟩ := nmd_ok hm
      refine g_iast S C (k := 15) shR_15 h8 dX8_makeLeast_131 (fun H locs C => ?_)
      rw [← eM9] at C
      refine lv_aload_n S.1 S.2.1 dX8_makeLeast_132 rfl (lv_at hl 1 rfl) ?_
      refine g_get (k := 0) (ci := 7) (f := 17) (v := .ref (ad 16))  S C kiX8_makeLeast_X8 kfX8_makeLeast_56 rfl (by decide) shR_0 rfl rfl dX8_makeLeast_133 ?_
      refine lv_iload_n S.1 S.2.1 dX8_makeLeast_136 rfl (lv_at hl 2 rfl) ?_
      refine lv_iload S.1 S.2.1 dX8_makeLeast_137 (lv_at hl 0 rfl) ?_
      obtain ⟨h10, hm⟩ := ck_ok hm
      obtain ⟨M11, eM11, hm⟩ := nmd_ok hm
      refine g_iast S C (k := 16) shR_16 h10 dX8_makeLeast_139 (fun H locs C => ?_)
      rw [← eM11] at C
      obtain ⟨y12, ey12, hm⟩ := nmd_ok hm
      refine lv_iinc (v := y12) (lv' := [(1, .int y12), (7, .int z0), (0, .ref (ad 0)), (2, .int x2), (3, .int x3), (4, .int x4), (5, .int x5)]) S.1 S.2.1 dX8_makeLeast_140 hl (k := 2) rfl (by rw [ey12]; rfl) (by decide) rfl (fun ls hl => ?_)
      exact wX8_makeLeast_143 S hr hlk kk25 kk41 M11 _ _ C y12 x2 x3 x4 x5 z0 ls (lv_sub hl [2, 0, 3, 4, 5, 6, 1] rfl) hm
set_option maxHeartbeats 4000000 in
set_option maxRecDepth 100000 in
theorem wX8_makeLeast_41 {p : Program} {l : Launch} {e : Env} {s : State} {m : MethodId} {args : Array Value} {below : List Frame} {meth : Method} {c : Code} {D : va_G} {cy : gCy} {ad : Nat → Nat} {r0 : (Int32 × gMem)} (S : CallFix p m c cX8_makeLeast 8 s args wsX8_makeLeast RX8) (hr : meth.sig.returnType = (some .int)) (hlk : meth.locks = false) {k25 : gMem → Int32 → Int32 → Int32 → Option (Int32 × gMem)} (kk25 : ∀ (M : gMem) (H : Heap) (locs : List Loc), gW shR D cy ad s s.heap M H locs → ∀ (x1 : Int32) (x2 : Int32) (x3 : Int32), ∀ (ls : Array Slot), lv_has ls 8 [(0, .ref (ad 0)), (1, .int x1), (2, .int x2), (3, .int x3)] → k25 M x1 x2 x3 = some r0 → W p l e (gR 5 117) s m args below meth c H locs 0 0 (MQ below (gQi shR D cy ad r0.1 r0.2) args s 0 0 (gA shR ad)) (F0 m 25 ls [])) : ∀ (n : Nat), ∀ (M : gMem) (H : Heap) (locs : List Loc), gW shR D cy ad s s.heap M H locs → ∀ (x1 : Int32) (x2 : Int32) (x3 : Int32) (x4 : Int32) (x5 : Int32), ∀ (ls : Array Slot), lv_has ls 8 [(0, .ref (ad 0)), (1, .int x1), (2, .int x2), (3, .int x3), (4, .int x4), (5, .int x5)] → mX8_makeLeast_41 k25 n M x1 x2 x3 x4 x5 = some r0 → W p l e (gR 5 117) s m args below meth c H locs 0 0 (MQ below (gQi shR D cy ad r0.1 r0.2) args s 0 0 (gA shR ad)) (F0 m 41 ls []) := by
  intro n
  induction n with
  | zero => intro M H locs C x1 x2 x3 x4 x5 ls hl hm; exact absurd hm (by simp [mX8_makeLeast_41])
  | succ n ih =>
    intro M H locs C x1 x2 x3 x4 x5 ls hl hm
    rw [mX8_makeLeast_41] at hm
    refine lv_iload S.1 S.2.1 dX8_makeLeast_41 (lv_at hl 5 rfl) ?_
    refine lv_iload_n S.1 S.2.1 dX8_makeLeast_43 rfl (lv_at hl 2 rfl) ?_
    refine lv_icmp_ge (tgt := 227) S.1 S.2.1 dX8_makeLeast_44 (by decide) (fun c1 => ?_) (fun c1 => ?_)
    · rw [if_pos c1] at hm
      refine lv_iconst (v := (0 : Int32)) S.1 S.2.1 dX8_makeLeast_227 (by decide) ?_
      refine lv_istore_n (lv' := [(2, .int (0 : Int32)), (0, .ref (ad 0)), (1, .int x1), (3, .int x3), (4, .int x4), (5, .int x5)]) S.1 S.2.1 dX8_makeLeast_228 rfl hl (by decide) rfl (fun ls hl => ?_)
      refine lv_iconst (v := (0 : Int32)) S.1 S.2.1 dX8_makeLeast_229 (by decide) ?_
      refine lv_istore (lv' := [(5, .int (0 : Int32)), (2, .int (0 : Int32)), (0, .ref (ad 0)), (1, .int x1), (3, .int x3), (4, .int x4)]) S.1 S.2.1 dX8_makeLeast_230 hl (by decide) rfl (fun ls hl => ?_)
      exact wX8_makeLeast_232 S hr hlk kk25 FU M _ _ C x1 (0 : Int32) x3 x4 (0 : Int32) ls (lv_sub hl [2, 3, 1, 4, 5, 0] rfl) hm
    · rw [if_neg c1] at hm
      refine lv_aload_n S.1 S.2.1 dX8_makeLeast_47 rfl (lv_at hl 0 rfl) ?_
      refine lv_aload_n S.1 S.2.1 dX8_makeLeast_48 rfl (lv_at hl 0 rfl) ?_
      refine g_get (k := 0) (ci := 7) (f := 10) (v := .ref (ad 10))  S C kiX8_makeLeast_X8 kfX8_makeLeast_38 rfl (by decide) shR_0 rfl rfl dX8_makeLeast_49 ?_
      refine lv_iload S.1 S.2.1 dX8_makeLeast_52 (lv_at hl 5 rfl) ?_
      obtain ⟨h2, hm⟩ := ck_ok hm
      refine g_lald S C (k := 10) shR_10 h2 dX8_makeLeast_54 ?_
      refine lv_iload_n S.1 S.2.1 dX8_makeLeast_55 rfl (lv_at hl 3 rfl) ?_
      obtain ⟨r3, hcr3, hm⟩ := bd_ok hm
      refine gC_i C (gRV (k := 0) (ci := 7) (r := (RX8, TX8, 34)) (As := [.long (M.2 10 x5.toNatClampNeg), .int x3]) (rest := []) 2 S C (c_X8_setOf l D cy ad M (M.2 10 x5.toNatClampNeg) x3 r3 hcr3) gX8_makeLeast_X8_setOf rfl (by decide +kernel) (by decide) shR_0 rfl rfl rfl hl.1 rfl (Nat.le_of_ble_eq_true rfl) dX8_makeLeast_56) (fun H locs C => ?_)
      refine lv_istore (lv' := [(6, .int r3), (0, .ref (ad 0)), (1, .int x1), (2, .int x2), (3, .int x3), (4, .int x4), (5, .int x5)]) S.1 S.2.1 dX8_makeLeast_59 hl (by decide) rfl (fun ls hl => ?_)
      refine lv_iload S.1 S.2.1 dX8_makeLeast_61 (lv_at hl 0 rfl) ?_
      refine lv_aload_n S.1 S.2.1 dX8_makeLeast_63 rfl (lv_at hl 1 rfl) ?_
      refine g_get (k := 0) (ci := 7) (f := 11) (v := .ref (ad 11))  S C kiX8_makeLeast_X8 kfX8_makeLeast_41 rfl (by decide) shR_0 rfl rfl dX8_makeLeast_64 ?_
      refine lv_iload S.1 S.2.1 dX8_makeLeast_67 (lv_at hl 6 rfl) ?_
      obtain ⟨h4, hm⟩ := ck_ok hm
      refine g_iald S C (k := 11) shR_11 h4 dX8_makeLeast_69 ?_
      refine lv_ishr S.1 S.2.1 dX8_makeLeast_70 ?_
      refine lv_iconst (v := (1 : Int32)) S.1 S.2.1 dX8_makeLeast_71 (by decide) ?_
      refine lv_iand S.1 S.2.1 dX8_makeLeast_72 ?_
      refine lv_iconst (v := (1 : Int32)) S.1 S.2.1 dX8_makeLeast_73 (by decide) ?_
      refine lv_icmp_ne (tgt := 87) S.1 S.2.1 dX8_makeLeast_74 (by decide) (fun c5 => ?_) (fun c5 => ?_)
      · rw [if_neg c5] at hm
        refine lv_iload S.1 S.2.1 dX8_makeLeast_87 (lv_at hl 0 rfl) ?_
        obtain ⟨r6, hcr6, hm⟩ := bd_ok hm
        refine gC_i C (gRS (As := [.int r3]) (rest := []) 1 S C (c_X8_lowest l D cy ad M r3 r6 hcr6) gX8_makeLeast_X8_lowest rfl (by decide +kernel) (by decide) rfl hl.1 rfl (Nat.le_of_ble_eq_true rfl) dX8_makeLeast_89) (fun H locs C => ?_)
        exact wX8_makeLeast_92 S hr hlk kk25 ih M _ _ C x1 x2 x3 x4 x5 r6 ls (lv_sub hl [1, 2, 3, 4, 5, 6] rfl) hm
      · rw [if_pos c5] at hm
        refine lv_aload_n S.1 S.2.1 dX8_makeLeast_77 rfl (lv_at hl 1 rfl) ?_
        refine g_get (k := 0) (ci := 7) (f := 11) (v := .ref (ad 11))  S C kiX8_makeLeast_X8 kfX8_makeLeast_41 rfl (by decide) shR_0 rfl rfl dX8_makeLeast_78 ?_
        refine lv_iload S.1 S.2.1 dX8_makeLeast_81 (lv_at hl 6 rfl) ?_
        obtain ⟨h7, hm⟩ := ck_ok hm
        refine g_iald S C (k := 11) shR_11 h7 dX8_makeLeast_83 ?_
        refine lv_goto (tgt := 92) S.1 S.2.1 dX8_makeLeast_84 (by decide) ?_
        exact wX8_makeLeast_92 S hr hlk kk25 ih M _ _ C x1 x2 x3 x4 x5 (M.1 11 x5.toNatClampNeg) ls (lv_sub hl [1, 2, 3, 4, 5, 6] rfl) hm
set_option maxHeartbeats 4000000 in
set_option maxRecDepth 100000 in
theorem wX8_makeLeast_25 {p : Program} {l : Launch} {e : Env} {s : State} {m : MethodId} {args : Array Value} {below : List Frame} {meth : Method} {c : Code} {D : va_G} {cy : gCy} {ad : Nat → Nat} {r0 : (Int32 × gMem)} (S : CallFix p m c cX8_makeLeast 8 s args wsX8_makeLeast RX8) (hr : meth.sig.returnType = (some .int)) (hlk : meth.locks = false) : ∀ (n : Nat), ∀ (M : gMem) (H : Heap) (locs : List Loc), gW shR D cy ad s s.heap M H locs → ∀ (x1 : Int32) (x2 : Int32) (x3 : Int32), ∀ (ls : Array Slot), lv_has ls 8 [(0, .ref (ad 0)), (1, .int x1), (2, .int x2), (3, .int x3)] → mX8_makeLeast_25 n M x1 x2 x3 = some r0 → W p l e (gR 5 117) s m args below meth c H locs 0 0 (MQ below (gQi shR D cy ad r0.1 r0.2) args s 0 0 (gA shR ad)) (F0 m 25 ls []) := by
  intro n
  induction n with
  | zero => intro M H locs C x1 x2 x3 ls hl hm; exact absurd hm (by simp [mX8_makeLeast_25])
  | succ n ih =>
    intro M H locs C x1 x2 x3 ls hl hm
    rw [mX8_makeLeast_25] at hm
    refine lv_iload_n S.1 S.2.1 dX8_makeLeast_25 rfl (lv_at hl 3 rfl) ?_
    refine lv_bipush (v := (32 : Int32)) S.1 S.2.1 dX8_makeLeast_26 (by decide) ?_
    refine lv_icmp_gt (tgt := 326) S.1 S.2.1 dX8_makeLeast_28 (by decide) (fun c1 => ?_) (fun c1 => ?_)
    · rw [if_pos c1] at hm
      refine lv_aload_n S.1 S.2.1 dX8_makeLeast_326 rfl (lv_at hl 0 rfl) ?_
      refine lv_iload_n S.1 S.2.1 dX8_makeLeast_327 rfl (lv_at hl 1 rfl) ?_
      obtain ⟨M2, eM2, hm⟩ := nmd_ok hm
      refine g_put (M' := (sI M 0 14 x1)) (k := 0) (ci := 7) (f := 14) (v := .int x1) (ty := .int) S C kiX8_makeLeast_X8 tyX8 tyX8_ok nmX8 kfX8_makeLeast_186 rfl (by decide) rfl (by decide +kernel) rfl rfl shR_0 rfl (Nat.le_of_ble_eq_true rfl) (by rw [sI_at]; rfl) sI_off dX8_makeLeast_328 (fun H locs C => ?_)
      rw [← eM2] at C
      refine lv_iload_n S.1 S.2.1 dX8_makeLeast_331 rfl (lv_at hl 1 rfl) ?_
      exact gReti S hr hlk C (pr1 hm) (pr2 hm) dX8_makeLeast_332
    · rw [if_neg c1] at hm
      refine lv_iload_n S.1 S.2.1 dX8_makeLeast_31 rfl (lv_at hl 2 rfl) ?_
      refine lv_if_le (tgt := 326) S.1 S.2.1 dX8_makeLeast_32 (by decide) (fun c3 => ?_) (fun c3 => ?_)
      · rw [if_pos c3] at hm
        refine lv_aload_n S.1 S.2.1 dX8_makeLeast_326 rfl (lv_at hl 0 rfl) ?_
        refine lv_iload_n S.1 S.2.1 dX8_makeLeast_327 rfl (lv_at hl 1 rfl) ?_
        obtain ⟨M4, eM4, hm⟩ := nmd_ok hm
        refine g_put (M' := (sI M 0 14 x1)) (k := 0) (ci := 7) (f := 14) (v := .int x1) (ty := .int) S C kiX8_makeLeast_X8 tyX8 tyX8_ok nmX8 kfX8_makeLeast_186 rfl (by decide) rfl (by decide +kernel) rfl rfl shR_0 rfl (Nat.le_of_ble_eq_true rfl) (by rw [sI_at]; rfl) sI_off dX8_makeLeast_328 (fun H locs C => ?_)
        rw [← eM4] at C
        refine lv_iload_n S.1 S.2.1 dX8_makeLeast_331 rfl (lv_at hl 1 rfl) ?_
        exact gReti S hr hlk C (pr1 hm) (pr2 hm) dX8_makeLeast_332
      · rw [if_neg c3] at hm
        refine lv_iconst (v := (0 : Int32)) S.1 S.2.1 dX8_makeLeast_35 (by decide) ?_
        refine lv_istore (lv' := [(4, .int (0 : Int32)), (0, .ref (ad 0)), (1, .int x1), (2, .int x2), (3, .int x3)]) S.1 S.2.1 dX8_makeLeast_36 hl (by decide) rfl (fun ls hl => ?_)
        refine lv_iconst (v := (0 : Int32)) S.1 S.2.1 dX8_makeLeast_38 (by decide) ?_
        refine lv_istore (lv' := [(5, .int (0 : Int32)), (4, .int (0 : Int32)), (0, .ref (ad 0)), (1, .int x1), (2, .int x2), (3, .int x3)]) S.1 S.2.1 dX8_makeLeast_39 hl (by decide) rfl (fun ls hl => ?_)
        exact wX8_makeLeast_41 S hr hlk ih FU M _ _ C x1 x2 x3 (0 : Int32) (0 : Int32) ls (lv_sub hl [2, 3, 4, 5, 1, 0] rfl) hm
set_option maxHeartbeats 4000000 in
set_option maxRecDepth 100000 in
theorem c_X8_makeLeast (l : Launch) (D : va_G) (cy : gCy) (ad : Nat → Nat) (M : gMem) (r0 : (Int32 × gMem)) (hm : mX8_makeLeast M = some r0) : Met l yX8_makeLeast wsX8_makeLeast (gR 5 117) (va_Pc [.ref (ad 0)] (gP shR D cy ad M)) (gQi shR D cy ad r0.1 r0.2) 0 0 (gA shR ad) := by
  refine gEnter (cc := cX8_makeLeast) (maxL := 8) (ret := (some .int)) (by decide) rfl (Nat.le_of_ble_eq_true rfl) ?_
  intro p e s m below meth c ls S hr hlk C hl
  have S : CallFix p m c cX8_makeLeast 8 s _ wsX8_makeLeast RX8 := S
  have hl : lv_has ls 8 [(0, .ref (ad 0))] := hl
  rw [mX8_makeLeast] at hm
  refine lv_aload_n S.1 S.2.1 dX8_makeLeast_0 rfl (lv_at hl 0 rfl) ?_
  obtain ⟨r1, hcr1, hm⟩ := bd_ok hm
  refine gC_v C (gRV (k := 0) (ci := 7) (r := (RX8, TX8, 34)) (As := []) (rest := []) 0 S C (c_X8_makeSets l D cy ad M r1 hcr1) gX8_makeLeast_X8_makeSets rfl (by decide +kernel) (by decide) shR_0 rfl rfl rfl hl.1 rfl (Nat.le_of_ble_eq_true rfl) dX8_makeLeast_1) (fun H locs C => ?_)
  refine lv_iconst (v := (0 : Int32)) S.1 S.2.1 dX8_makeLeast_4 (by decide) ?_
  refine lv_istore_n (lv' := [(1, .int (0 : Int32)), (0, .ref (ad 0))]) S.1 S.2.1 dX8_makeLeast_5 rfl hl (by decide) rfl (fun ls hl => ?_)
  refine lv_iconst (v := (1 : Int32)) S.1 S.2.1 dX8_makeLeast_6 (by decide) ?_
  refine lv_istore_n (lv' := [(2, .int (1 : Int32)), (1, .int (0 : Int32)), (0, .ref (ad 0))]) S.1 S.2.1 dX8_makeLeast_7 rfl hl (by decide) rfl (fun ls hl => ?_)
  refine lv_aload_n S.1 S.2.1 dX8_makeLeast_8 rfl (lv_at hl 2 rfl) ?_
  refine g_get (k := 0) (ci := 7) (f := 10) (v := .ref (ad 10))  S C kiX8_makeLeast_X8 kfX8_makeLeast_38 rfl (by decide) shR_0 rfl rfl dX8_makeLeast_9 ?_
  refine lv_iconst (v := (0 : Int32)) S.1 S.2.1 dX8_makeLeast_12 (by decide) ?_
  refine lv_lconst (v := (0 : Int64)) S.1 S.2.1 dX8_makeLeast_13 (by decide) ?_
  obtain ⟨h2, hm⟩ := ck_ok hm
  obtain ⟨M3, eM3, hm⟩ := nmd_ok hm
  refine g_last S C (k := 10) shR_10 h2 dX8_makeLeast_14 (fun H locs C => ?_)
  rw [← eM3] at C
  refine lv_aload_n S.1 S.2.1 dX8_makeLeast_15 rfl (lv_at hl 2 rfl) ?_
  refine g_get (k := 0) (ci := 7) (f := 11) (v := .ref (ad 11))  S C kiX8_makeLeast_X8 kfX8_makeLeast_41 rfl (by decide) shR_0 rfl rfl dX8_makeLeast_16 ?_
  refine lv_iconst (v := (0 : Int32)) S.1 S.2.1 dX8_makeLeast_19 (by decide) ?_
  refine lv_bipush (v := (16 : Int32)) S.1 S.2.1 dX8_makeLeast_20 (by decide) ?_
  obtain ⟨h4, hm⟩ := ck_ok hm
  obtain ⟨M5, eM5, hm⟩ := nmd_ok hm
  refine g_iast S C (k := 11) shR_11 h4 dX8_makeLeast_22 (fun H locs C => ?_)
  rw [← eM5] at C
  refine lv_iconst (v := (0 : Int32)) S.1 S.2.1 dX8_makeLeast_23 (by decide) ?_
  refine lv_istore_n (lv' := [(3, .int (0 : Int32)), (2, .int (1 : Int32)), (1, .int (0 : Int32)), (0, .ref (ad 0))]) S.1 S.2.1 dX8_makeLeast_24 rfl hl (by decide) rfl (fun ls hl => ?_)
  exact wX8_makeLeast_25 S hr hlk FU M5 _ _ C (0 : Int32) (1 : Int32) (0 : Int32) ls (lv_sub hl [3, 2, 1, 0] rfl) hm
def mX8_becomes_9 : Nat → gMem → Int32 → Int32 → Option (Int32 × gMem)
  | 0, _, _, _ => none
  | n + 1, M, x1, x2 => if (M.1 0 14) ≤ x2 then (ck (inb x1 6) <| some ((M.1 1 x1.toNatClampNeg), M)) else (ck (inb x2 64) <| ck (inb x2 64) <| ck (inb x2 64) <| (mX8_comes M x1 (M.2 14 x2.toNatClampNeg) (M.1 15 x2.toNatClampNeg) (M.1 16 x2.toNatClampNeg)).bind fun r6 => nmd (x2 + (1 : Int32)) fun y7 => mX8_becomes_9 n r6 x1 y7)
def mX8_becomes (M : gMem) (x1 : Int32) : Option (Int32 × gMem) := ck (inb x1 6) <| nmd (sI M 1 x1.toNatClampNeg (0 : Int32)) fun M2 => mX8_becomes_9 FU M2 x1 (0 : Int32)
set_option maxHeartbeats 4000000 in
set_option maxRecDepth 100000 in
theorem wX8_becomes_9 {p : Program} {l : Launch} {e : Env} {s : State} {m : MethodId} {args : Array Value} {below : List Frame} {meth : Method} {c : Code} {D : va_G} {cy : gCy} {ad : Nat → Nat} {r0 : (Int32 × gMem)} (S : CallFix p m c cX8_becomes 3 s args wsX8_becomes RX8) (hr : meth.sig.returnType = (some .int)) (hlk : meth.locks = false) : ∀ (n : Nat), ∀ (M : gMem) (H : Heap) (locs : List Loc), gW shR D cy ad s s.heap M H locs → ∀ (x1 : Int32) (x2 : Int32), ∀ (ls : Array Slot), lv_has ls 3 [(0, .ref (ad 0)), (1, .int x1), (2, .int x2)] → mX8_becomes_9 n M x1 x2 = some r0 → W p l e (gR 2 49) s m args below meth c H locs 0 0 (MQ below (gQi shR D cy ad r0.1 r0.2) args s 0 0 (gA shR ad)) (F0 m 9 ls []) := by
  intro n
  induction n with
  | zero => intro M H locs C x1 x2 ls hl hm; exact absurd hm (by simp [mX8_becomes_9])
  | succ n ih =>
    intro M H locs C x1 x2 ls hl hm
    rw [mX8_becomes_9] at hm
    refine lv_iload_n S.1 S.2.1 dX8_becomes_9 rfl (lv_at hl 2 rfl) ?_
    refine lv_aload_n S.1 S.2.1 dX8_becomes_10 rfl (lv_at hl 0 rfl) ?_
    refine g_get (k := 0) (ci := 7) (f := 14) (v := .int (M.1 0 14))  S C kiX8_becomes_X8 kfX8_becomes_186 rfl (by decide) shR_0 rfl rfl dX8_becomes_11 ?_
    refine lv_icmp_ge (tgt := 46) S.1 S.2.1 dX8_becomes_14 (by decide) (fun c1 => ?_) (fun c1 => ?_)
    · rw [if_pos c1] at hm
      refine lv_aload_n S.1 S.2.1 dX8_becomes_46 rfl (lv_at hl 0 rfl) ?_
      refine g_get (k := 0) (ci := 7) (f := 0) (v := .ref (ad 1))  S C kiX8_becomes_X8 kfX8_becomes_7 rfl (by decide) shR_0 rfl rfl dX8_becomes_47 ?_
      refine lv_iload_n S.1 S.2.1 dX8_becomes_50 rfl (lv_at hl 1 rfl) ?_
      obtain ⟨h2, hm⟩ := ck_ok hm
      refine g_iald S C (k := 1) shR_1 h2 dX8_becomes_51 ?_
      exact gReti S hr hlk C (pr1 hm) (pr2 hm) dX8_becomes_52
    · rw [if_neg c1] at hm
      refine lv_aload_n S.1 S.2.1 dX8_becomes_17 rfl (lv_at hl 0 rfl) ?_
      refine lv_iload_n S.1 S.2.1 dX8_becomes_18 rfl (lv_at hl 1 rfl) ?_
      refine lv_aload_n S.1 S.2.1 dX8_becomes_19 rfl (lv_at hl 0 rfl) ?_
      refine g_get (k := 0) (ci := 7) (f := 15) (v := .ref (ad 14))  S C kiX8_becomes_X8 kfX8_becomes_50 rfl (by decide) shR_0 rfl rfl dX8_becomes_20 ?_
      refine lv_iload_n S.1 S.2.1 dX8_becomes_23 rfl (lv_at hl 2 rfl) ?_
      obtain ⟨h3, hm⟩ := ck_ok hm
      refine g_lald S C (k := 14) shR_14 h3 dX8_becomes_24 ?_
      refine lv_aload_n S.1 S.2.1 dX8_becomes_25 rfl (lv_at hl 0 rfl) ?_
      refine g_get (k := 0) (ci := 7) (f := 16) (v := .ref (ad 15))  S C kiX8_becomes_X8 kfX8_becomes_53 rfl (by decide) shR_0 rfl rfl dX8_becomes_26 ?_
      refine lv_iload_n S.1 S.2.1 dX8_becomes_29 rfl (lv_at hl 2 rfl) ?_
      obtain ⟨h4, hm⟩ := ck_ok hm
      refine g_iald S C (k := 15) shR_15 h4 dX8_becomes_30 ?_
      refine lv_aload_n S.1 S.2.1 dX8_becomes_31 rfl (lv_at hl 0 rfl) ?_
      refine g_get (k := 0) (ci := 7) (f := 17) (v := .ref (ad 16))  S C kiX8_becomes_X8 kfX8_becomes_56 rfl (by decide) shR_0 rfl rfl dX8_becomes_32 ?_
      refine lv_iload_n S.1 S.2.1 dX8_becomes_35 rfl (lv_at hl 2 rfl) ?_
      obtain ⟨h5, hm⟩ := ck_ok hm
      refine g_iald S C (k := 16) shR_16 h5 dX8_becomes_36 ?_
      obtain ⟨r6, hcr6, hm⟩ := bd_ok hm
      refine gC_v C (gRV (k := 0) (ci := 7) (r := (RX8, TX8, 34)) (As := [.int x1, .long (M.2 14 x2.toNatClampNeg), .int (M.1 15 x2.toNatClampNeg), .int (M.1 16 x2.toNatClampNeg)]) (rest := []) 4 S C (c_X8_comes l D cy ad M x1 (M.2 14 x2.toNatClampNeg) (M.1 15 x2.toNatClampNeg) (M.1 16 x2.toNatClampNeg) r6 hcr6) gX8_becomes_X8_comes rfl (by decide +kernel) (by decide) shR_0 rfl rfl rfl hl.1 rfl (Nat.le_of_ble_eq_true rfl) dX8_becomes_37) (fun H locs C => ?_)
      obtain ⟨y7, ey7, hm⟩ := nmd_ok hm
      refine lv_iinc (v := y7) (lv' := [(2, .int y7), (0, .ref (ad 0)), (1, .int x1)]) S.1 S.2.1 dX8_becomes_40 hl (k := 2) rfl (by rw [ey7]; rfl) (by decide) rfl (fun ls hl => ?_)
      refine lv_goto (tgt := 9) S.1 S.2.1 dX8_becomes_43 (by decide) ?_
      exact ih r6 _ _ C x1 y7 ls (lv_sub hl [1, 2, 0] rfl) hm
set_option maxHeartbeats 4000000 in
set_option maxRecDepth 100000 in
theorem c_X8_becomes (l : Launch) (D : va_G) (cy : gCy) (ad : Nat → Nat) (M : gMem) (x1 : Int32) (r0 : (Int32 × gMem)) (hm : mX8_becomes M x1 = some r0) : Met l yX8_becomes wsX8_becomes (gR 2 49) (va_Pc [.ref (ad 0), .int x1] (gP shR D cy ad M)) (gQi shR D cy ad r0.1 r0.2) 0 0 (gA shR ad) := by
  refine gEnter (cc := cX8_becomes) (maxL := 3) (ret := (some .int)) (by decide) rfl (Nat.le_of_ble_eq_true rfl) ?_
  intro p e s m below meth c ls S hr hlk C hl
  have S : CallFix p m c cX8_becomes 3 s _ wsX8_becomes RX8 := S
  have hl : lv_has ls 3 [(0, .ref (ad 0)), (1, .int x1)] := hl
  rw [mX8_becomes] at hm
  refine lv_aload_n S.1 S.2.1 dX8_becomes_0 rfl (lv_at hl 0 rfl) ?_
  refine g_get (k := 0) (ci := 7) (f := 0) (v := .ref (ad 1))  S C kiX8_becomes_X8 kfX8_becomes_7 rfl (by decide) shR_0 rfl rfl dX8_becomes_1 ?_
  refine lv_iload_n S.1 S.2.1 dX8_becomes_4 rfl (lv_at hl 1 rfl) ?_
  refine lv_iconst (v := (0 : Int32)) S.1 S.2.1 dX8_becomes_5 (by decide) ?_
  obtain ⟨h1, hm⟩ := ck_ok hm
  obtain ⟨M2, eM2, hm⟩ := nmd_ok hm
  refine g_iast S C (k := 1) shR_1 h1 dX8_becomes_6 (fun H locs C => ?_)
  rw [← eM2] at C
  refine lv_iconst (v := (0 : Int32)) S.1 S.2.1 dX8_becomes_7 (by decide) ?_
  refine lv_istore_n (lv' := [(2, .int (0 : Int32)), (0, .ref (ad 0)), (1, .int x1)]) S.1 S.2.1 dX8_becomes_8 rfl hl (by decide) rfl (fun ls hl => ?_)
  exact wX8_becomes_9 S hr hlk FU M2 _ _ C x1 (0 : Int32) ls (lv_sub hl [1, 2, 0] rfl) hm
def mX8_least (M : gMem) (x1 : Int32) (x2 : Int32) : Option (Int32 × gMem) := (mX8_isBook x1).bind fun r1 => if r1 = 0 then (some ((-1 : Int32), M)) else ((mX8_isBook x2).bind fun r3 => if r3 = 0 then (some ((-1 : Int32), M)) else ((mX8_makeSpans M (3 : Int32) x1 x1).bind fun r5 => (mX8_makeLeast r5).bind fun r6 => (mX8_becomes r6.2 x2).bind fun r7 => some (r7.1, r7.2)))
set_option maxHeartbeats 4000000 in
set_option maxRecDepth 100000 in
theorem c_X8_least (l : Launch) (D : va_G) (cy : gCy) (ad : Nat → Nat) (M : gMem) (x1 : Int32) (x2 : Int32) (r0 : (Int32 × gMem)) (hm : mX8_least M x1 x2 = some r0) : Met l yX8_least wsX8_least (gR 6 146) (va_Pc [.ref (ad 0), .int x1, .int x2] (gP shR D cy ad M)) (gQi shR D cy ad r0.1 r0.2) 0 0 (gA shR ad) := by
  refine gEnter (cc := cX8_least) (maxL := 4) (ret := (some .int)) (by decide) rfl (Nat.le_of_ble_eq_true rfl) ?_
  intro p e s m below meth c ls S hr hlk C hl
  have S : CallFix p m c cX8_least 4 s _ wsX8_least RX8 := S
  have hl : lv_has ls 4 [(0, .ref (ad 0)), (1, .int x1), (2, .int x2)] := hl
  rw [mX8_least] at hm
  refine lv_iload_n S.1 S.2.1 dX8_least_0 rfl (lv_at hl 1 rfl) ?_
  obtain ⟨r1, hcr1, hm⟩ := bd_ok hm
  refine gC_i C (gRS (As := [.int x1]) (rest := []) 1 S C (c_X8_isBook l D cy ad M x1 r1 hcr1) gX8_least_X8_isBook rfl (by decide +kernel) (by decide) rfl hl.1 rfl (Nat.le_of_ble_eq_true rfl) dX8_least_1) (fun H locs C => ?_)
  refine lv_if_eq (tgt := 14) S.1 S.2.1 dX8_least_4 (by decide) (fun c2 => ?_) (fun c2 => ?_)
  · rw [if_pos c2] at hm
    refine lv_iconst (v := (-1 : Int32)) S.1 S.2.1 dX8_least_14 (by decide) ?_
    exact gReti S hr hlk C (pr1 hm) (pr2 hm) dX8_least_15
  · rw [if_neg c2] at hm
    refine lv_iload_n S.1 S.2.1 dX8_least_7 rfl (lv_at hl 2 rfl) ?_
    obtain ⟨r3, hcr3, hm⟩ := bd_ok hm
    refine gC_i C (gRS (As := [.int x2]) (rest := []) 1 S C (c_X8_isBook l D cy ad M x2 r3 hcr3) gX8_least_X8_isBook rfl (by decide +kernel) (by decide) rfl hl.1 rfl (Nat.le_of_ble_eq_true rfl) dX8_least_8) (fun H locs C => ?_)
    refine lv_if_ne (tgt := 16) S.1 S.2.1 dX8_least_11 (by decide) (fun c4 => ?_) (fun c4 => ?_)
    · rw [if_neg c4] at hm
      refine lv_aload_n S.1 S.2.1 dX8_least_16 rfl (lv_at hl 0 rfl) ?_
      refine lv_iconst (v := (3 : Int32)) S.1 S.2.1 dX8_least_17 (by decide) ?_
      refine lv_iload_n S.1 S.2.1 dX8_least_18 rfl (lv_at hl 1 rfl) ?_
      refine lv_iload_n S.1 S.2.1 dX8_least_19 rfl (lv_at hl 1 rfl) ?_
      obtain ⟨r5, hcr5, hm⟩ := bd_ok hm
      refine gC_v C (gRV (k := 0) (ci := 7) (r := (RX8, TX8, 34)) (As := [.int (3 : Int32), .int x1, .int x1]) (rest := []) 3 S C (c_X8_makeSpans l D cy ad M (3 : Int32) x1 x1 r5 hcr5) gX8_least_X8_makeSpans rfl (by decide +kernel) (by decide) shR_0 rfl rfl rfl hl.1 rfl (Nat.le_of_ble_eq_true rfl) dX8_least_20) (fun H locs C => ?_)
      refine lv_aload_n S.1 S.2.1 dX8_least_23 rfl (lv_at hl 0 rfl) ?_
      obtain ⟨r6, hcr6, hm⟩ := bd_ok hm
      refine gC_i C (gRV (k := 0) (ci := 7) (r := (RX8, TX8, 34)) (As := []) (rest := []) 0 S C (c_X8_makeLeast l D cy ad r5 r6 hcr6) gX8_least_X8_makeLeast rfl (by decide +kernel) (by decide) shR_0 rfl rfl rfl hl.1 rfl (Nat.le_of_ble_eq_true rfl) dX8_least_24) (fun H locs C => ?_)
      refine lv_istore_n (lv' := [(3, .int r6.1), (0, .ref (ad 0)), (1, .int x1), (2, .int x2)]) S.1 S.2.1 dX8_least_27 rfl hl (by decide) rfl (fun ls hl => ?_)
      refine lv_aload_n S.1 S.2.1 dX8_least_28 rfl (lv_at hl 1 rfl) ?_
      refine lv_iload_n S.1 S.2.1 dX8_least_29 rfl (lv_at hl 3 rfl) ?_
      obtain ⟨r7, hcr7, hm⟩ := bd_ok hm
      refine gC_i C (gRV (k := 0) (ci := 7) (r := (RX8, TX8, 34)) (As := [.int x2]) (rest := []) 1 S C (c_X8_becomes l D cy ad r6.2 x2 r7 hcr7) gX8_least_X8_becomes rfl (by decide +kernel) (by decide) shR_0 rfl rfl rfl hl.1 rfl (Nat.le_of_ble_eq_true rfl) dX8_least_30) (fun H locs C => ?_)
      exact gReti S hr hlk C (pr1 hm) (pr2 hm) dX8_least_33
    · rw [if_pos c4] at hm
      refine lv_iconst (v := (-1 : Int32)) S.1 S.2.1 dX8_least_14 (by decide) ?_
      exact gReti S hr hlk C (pr1 hm) (pr2 hm) dX8_least_15
def mX8_combine (M : gMem) (x1 : Int32) (x2 : Int32) (x3 : Int32) (x4 : Int32) : Option (Int32 × gMem) := (mX8_lies x1 (0 : Int32) (2 : Int32)).bind fun r1 => if r1 = 0 then (some ((-1 : Int32), M)) else ((mX8_isBook x2).bind fun r3 => if r3 = 0 then (some ((-1 : Int32), M)) else ((mX8_isBook x3).bind fun r5 => if r5 = 0 then (some ((-1 : Int32), M)) else ((mX8_isBook x4).bind fun r7 => if r7 = 0 then (some ((-1 : Int32), M)) else ((mX8_makeSpans M x1 x2 x3).bind fun r9 => (mX8_makeLeast r9).bind fun r10 => if r10.1 ≤ (64 : Int32) then ((mX8_becomes r10.2 x4).bind fun r12 => some (r12.1, r12.2)) else (some ((-2 : Int32), r10.2))))))
set_option maxHeartbeats 4000000 in
set_option maxRecDepth 100000 in
theorem c_X8_combine (l : Launch) (D : va_G) (cy : gCy) (ad : Nat → Nat) (M : gMem) (x1 : Int32) (x2 : Int32) (x3 : Int32) (x4 : Int32) (r0 : (Int32 × gMem)) (hm : mX8_combine M x1 x2 x3 x4 = some r0) : Met l yX8_combine wsX8_combine (gR 6 146) (va_Pc [.ref (ad 0), .int x1, .int x2, .int x3, .int x4] (gP shR D cy ad M)) (gQi shR D cy ad r0.1 r0.2) 0 0 (gA shR ad) := by
  refine gEnter (cc := cX8_combine) (maxL := 5) (ret := (some .int)) (by decide) rfl (Nat.le_of_ble_eq_true rfl) ?_
  intro p e s m below meth c ls S hr hlk C hl
  have S : CallFix p m c cX8_combine 5 s _ wsX8_combine RX8 := S
  have hl : lv_has ls 5 [(0, .ref (ad 0)), (1, .int x1), (2, .int x2), (3, .int x3), (4, .int x4)] := hl
  rw [mX8_combine] at hm
  refine lv_iload_n S.1 S.2.1 dX8_combine_0 rfl (lv_at hl 1 rfl) ?_
  refine lv_iconst (v := (0 : Int32)) S.1 S.2.1 dX8_combine_1 (by decide) ?_
  refine lv_iconst (v := (2 : Int32)) S.1 S.2.1 dX8_combine_2 (by decide) ?_
  obtain ⟨r1, hcr1, hm⟩ := bd_ok hm
  refine gC_i C (gRS (As := [.int x1, .int (0 : Int32), .int (2 : Int32)]) (rest := []) 3 S C (c_X8_lies l D cy ad M x1 (0 : Int32) (2 : Int32) r1 hcr1) gX8_combine_X8_lies rfl (by decide +kernel) (by decide) rfl hl.1 rfl (Nat.le_of_ble_eq_true rfl) dX8_combine_3) (fun H locs C => ?_)
  refine lv_if_eq (tgt := 31) S.1 S.2.1 dX8_combine_6 (by decide) (fun c2 => ?_) (fun c2 => ?_)
  · rw [if_pos c2] at hm
    refine lv_iconst (v := (-1 : Int32)) S.1 S.2.1 dX8_combine_31 (by decide) ?_
    exact gReti S hr hlk C (pr1 hm) (pr2 hm) dX8_combine_32
  · rw [if_neg c2] at hm
    refine lv_iload_n S.1 S.2.1 dX8_combine_9 rfl (lv_at hl 2 rfl) ?_
    obtain ⟨r3, hcr3, hm⟩ := bd_ok hm
    refine gC_i C (gRS (As := [.int x2]) (rest := []) 1 S C (c_X8_isBook l D cy ad M x2 r3 hcr3) gX8_combine_X8_isBook rfl (by decide +kernel) (by decide) rfl hl.1 rfl (Nat.le_of_ble_eq_true rfl) dX8_combine_10) (fun H locs C => ?_)
    refine lv_if_eq (tgt := 31) S.1 S.2.1 dX8_combine_13 (by decide) (fun c4 => ?_) (fun c4 => ?_)
    · rw [if_pos c4] at hm
      refine lv_iconst (v := (-1 : Int32)) S.1 S.2.1 dX8_combine_31 (by decide) ?_
      exact gReti S hr hlk C (pr1 hm) (pr2 hm) dX8_combine_32
    · rw [if_neg c4] at hm
      refine lv_iload_n S.1 S.2.1 dX8_combine_16 rfl (lv_at hl 3 rfl) ?_
      obtain ⟨r5, hcr5, hm⟩ := bd_ok hm
      refine gC_i C (gRS (As := [.int x3]) (rest := []) 1 S C (c_X8_isBook l D cy ad M x3 r5 hcr5) gX8_combine_X8_isBook rfl (by decide +kernel) (by decide) rfl hl.1 rfl (Nat.le_of_ble_eq_true rfl) dX8_combine_17) (fun H locs C => ?_)
      refine lv_if_eq (tgt := 31) S.1 S.2.1 dX8_combine_20 (by decide) (fun c6 => ?_) (fun c6 => ?_)
      · rw [if_pos c6] at hm
        refine lv_iconst (v := (-1 : Int32)) S.1 S.2.1 dX8_combine_31 (by decide) ?_
        exact gReti S hr hlk C (pr1 hm) (pr2 hm) dX8_combine_32
      · rw [if_neg c6] at hm
        refine lv_iload S.1 S.2.1 dX8_combine_23 (lv_at hl 4 rfl) ?_
        obtain ⟨r7, hcr7, hm⟩ := bd_ok hm
        refine gC_i C (gRS (As := [.int x4]) (rest := []) 1 S C (c_X8_isBook l D cy ad M x4 r7 hcr7) gX8_combine_X8_isBook rfl (by decide +kernel) (by decide) rfl hl.1 rfl (Nat.le_of_ble_eq_true rfl) dX8_combine_25) (fun H locs C => ?_)
        refine lv_if_ne (tgt := 33) S.1 S.2.1 dX8_combine_28 (by decide) (fun c8 => ?_) (fun c8 => ?_)
        · rw [if_neg c8] at hm
          refine lv_aload_n S.1 S.2.1 dX8_combine_33 rfl (lv_at hl 0 rfl) ?_
          refine lv_iload_n S.1 S.2.1 dX8_combine_34 rfl (lv_at hl 1 rfl) ?_
          refine lv_iload_n S.1 S.2.1 dX8_combine_35 rfl (lv_at hl 2 rfl) ?_
          refine lv_iload_n S.1 S.2.1 dX8_combine_36 rfl (lv_at hl 3 rfl) ?_
          obtain ⟨r9, hcr9, hm⟩ := bd_ok hm
          refine gC_v C (gRV (k := 0) (ci := 7) (r := (RX8, TX8, 34)) (As := [.int x1, .int x2, .int x3]) (rest := []) 3 S C (c_X8_makeSpans l D cy ad M x1 x2 x3 r9 hcr9) gX8_combine_X8_makeSpans rfl (by decide +kernel) (by decide) shR_0 rfl rfl rfl hl.1 rfl (Nat.le_of_ble_eq_true rfl) dX8_combine_37) (fun H locs C => ?_)
          refine lv_aload_n S.1 S.2.1 dX8_combine_40 rfl (lv_at hl 0 rfl) ?_
          obtain ⟨r10, hcr10, hm⟩ := bd_ok hm
          refine gC_i C (gRV (k := 0) (ci := 7) (r := (RX8, TX8, 34)) (As := []) (rest := []) 0 S C (c_X8_makeLeast l D cy ad r9 r10 hcr10) gX8_combine_X8_makeLeast rfl (by decide +kernel) (by decide) shR_0 rfl rfl rfl hl.1 rfl (Nat.le_of_ble_eq_true rfl) dX8_combine_41) (fun H locs C => ?_)
          refine lv_bipush (v := (64 : Int32)) S.1 S.2.1 dX8_combine_44 (by decide) ?_
          refine lv_icmp_le (tgt := 54) S.1 S.2.1 dX8_combine_46 (by decide) (fun c11 => ?_) (fun c11 => ?_)
          · rw [if_pos c11] at hm
            refine lv_aload_n S.1 S.2.1 dX8_combine_54 rfl (lv_at hl 0 rfl) ?_
            refine lv_iload S.1 S.2.1 dX8_combine_55 (lv_at hl 4 rfl) ?_
            obtain ⟨r12, hcr12, hm⟩ := bd_ok hm
            refine gC_i C (gRV (k := 0) (ci := 7) (r := (RX8, TX8, 34)) (As := [.int x4]) (rest := []) 1 S C (c_X8_becomes l D cy ad r10.2 x4 r12 hcr12) gX8_combine_X8_becomes rfl (by decide +kernel) (by decide) shR_0 rfl rfl rfl hl.1 rfl (Nat.le_of_ble_eq_true rfl) dX8_combine_57) (fun H locs C => ?_)
            exact gReti S hr hlk C (pr1 hm) (pr2 hm) dX8_combine_60
          · rw [if_neg c11] at hm
            refine lv_bipush (v := (-2 : Int32)) S.1 S.2.1 dX8_combine_49 (by decide) ?_
            refine lv_goto (tgt := 60) S.1 S.2.1 dX8_combine_51 (by decide) ?_
            exact gReti S hr hlk C (pr1 hm) (pr2 hm) dX8_combine_60
        · rw [if_pos c8] at hm
          refine lv_iconst (v := (-1 : Int32)) S.1 S.2.1 dX8_combine_31 (by decide) ?_
          exact gReti S hr hlk C (pr1 hm) (pr2 hm) dX8_combine_32
def mX8_cover_35 (k25 : gMem → Int64 → Int64 → Option (Int32 × gMem)) : Nat → gMem → Int64 → Int64 → Int32 → Option (Int32 × gMem)
  | 0, _, _, _, _ => none
  | n + 1, M, x3, x5, x7 => (mX8_size x7).bind fun r1 => ck (nzL r1) <| if (x3 - x3 / r1 * r1) = (0 : Int64) then ((mX8_size x7).bind fun r5 => if ((x3 + r5) - (1 : Int64)) ≤ x5 then (ck (inb (M.1 0 18) 64) <| nmd (sJ M 17 (M.1 0 18).toNatClampNeg x3) fun M8 => ck (inb (M8.1 0 18) 64) <| nmd (sI M8 18 (M8.1 0 18).toNatClampNeg x7) fun M10 => nmd (sI M10 0 18 ((M10.1 0 18) + (1 : Int32))) fun M11 => (mX8_size x7).bind fun r12 => nmd (x3 + r12) fun y13 => k25 M11 y13 x5) else (nmd (x7 + (1 : Int32)) fun y14 => mX8_cover_35 k25 n M x3 x5 y14)) else (nmd (x7 + (1 : Int32)) fun y4 => mX8_cover_35 k25 n M x3 x5 y4)
def mX8_cover_25 : Nat → gMem → Int64 → Int64 → Option (Int32 × gMem)
  | 0, _, _, _ => none
  | n + 1, M, x3, x5 => if x5 < x3 then (some ((M.1 0 18), M)) else (mX8_cover_35 (mX8_cover_25 n) FU M x3 x5 (0 : Int32))
def mX8_cover (M : gMem) (x1 : Int32) (x2 : Int32) : Option (Int32 × gMem) := (mX8_number x1).bind fun r1 => (mX8_number x2).bind fun r2 => if r1 ≤ r2 then (nmd (sI M 0 18 (0 : Int32)) fun M4 => mX8_cover_25 FU M4 r1 r2) else (some ((-1 : Int32), M))
set_option maxHeartbeats 4000000 in
set_option maxRecDepth 100000 in
theorem wX8_cover_35 {p : Program} {l : Launch} {e : Env} {s : State} {m : MethodId} {args : Array Value} {below : List Frame} {meth : Method} {c : Code} {D : va_G} {cy : gCy} {ad : Nat → Nat} {r0 : (Int32 × gMem)} (S : CallFix p m c cX8_cover 8 s args wsX8_cover RX8) (hr : meth.sig.returnType = (some .int)) (hlk : meth.locks = false) {k25 : gMem → Int64 → Int64 → Option (Int32 × gMem)} (kk25 : ∀ (M : gMem) (H : Heap) (locs : List Loc), gW shR D cy ad s s.heap M H locs → ∀ (x3 : Int64) (x5 : Int64), ∀ (ls : Array Slot), lv_has ls 8 [(0, .ref (ad 0)), (3, .long x3), (5, .long x5)] → k25 M x3 x5 = some r0 → W p l e (gR 1 20) s m args below meth c H locs 0 0 (MQ below (gQi shR D cy ad r0.1 r0.2) args s 0 0 (gA shR ad)) (F0 m 25 ls [])) : ∀ (n : Nat), ∀ (M : gMem) (H : Heap) (locs : List Loc), gW shR D cy ad s s.heap M H locs → ∀ (x3 : Int64) (x5 : Int64) (x7 : Int32), ∀ (ls : Array Slot), lv_has ls 8 [(0, .ref (ad 0)), (3, .long x3), (5, .long x5), (7, .int x7)] → mX8_cover_35 k25 n M x3 x5 x7 = some r0 → W p l e (gR 1 20) s m args below meth c H locs 0 0 (MQ below (gQi shR D cy ad r0.1 r0.2) args s 0 0 (gA shR ad)) (F0 m 35 ls []) := by
  intro n
  induction n with
  | zero => intro M H locs C x3 x5 x7 ls hl hm; exact absurd hm (by simp [mX8_cover_35])
  | succ n ih =>
    intro M H locs C x3 x5 x7 ls hl hm
    rw [mX8_cover_35] at hm
    refine lv_lload_n S.1 S.2.1 dX8_cover_35 rfl (lv_at hl 1 rfl) ?_
    refine lv_iload S.1 S.2.1 dX8_cover_36 (lv_at hl 3 rfl) ?_
    obtain ⟨r1, hcr1, hm⟩ := bd_ok hm
    refine gC_l C (gRS (As := [.int x7]) (rest := [.long x3]) 1 S C (c_X8_size l D cy ad M x7 r1 hcr1) gX8_cover_X8_size rfl (by decide +kernel) (by decide) rfl hl.1 rfl (Nat.le_of_ble_eq_true rfl) dX8_cover_38) (fun H locs C => ?_)
    obtain ⟨h2, hm⟩ := ck_ok hm
    refine lv_lrem S.1 S.2.1 dX8_cover_41 (nzL_ok h2) ?_
    refine lv_lconst (v := (0 : Int64)) S.1 S.2.1 dX8_cover_42 (by decide) ?_
    refine W.lcmp S.1 S.2.1 dX8_cover_43 ?_
    refine lv_if_ne (tgt := 62) S.1 S.2.1 dX8_cover_44 (by decide) (fun c3 => ?_) (fun c3 => ?_)
    · rw [if_neg (fun q => c3 (cmp_eq.mpr q))] at hm
      obtain ⟨y4, ey4, hm⟩ := nmd_ok hm
      refine lv_iinc (v := y4) (lv' := [(7, .int y4), (0, .ref (ad 0)), (3, .long x3), (5, .long x5)]) S.1 S.2.1 dX8_cover_62 hl (k := 3) rfl (by rw [ey4]; rfl) (by decide) rfl (fun ls hl => ?_)
      refine lv_goto (tgt := 35) S.1 S.2.1 dX8_cover_65 (by decide) ?_
      exact ih M _ _ C x3 x5 y4 ls (lv_sub hl [1, 2, 3, 0] rfl) hm
    · rw [if_pos (cmp_eq.mp c3)] at hm
      refine lv_lload_n S.1 S.2.1 dX8_cover_47 rfl (lv_at hl 1 rfl) ?_
      refine lv_iload S.1 S.2.1 dX8_cover_48 (lv_at hl 3 rfl) ?_
      obtain ⟨r5, hcr5, hm⟩ := bd_ok hm
      refine gC_l C (gRS (As := [.int x7]) (rest := [.long x3]) 1 S C (c_X8_size l D cy ad M x7 r5 hcr5) gX8_cover_X8_size rfl (by decide +kernel) (by decide) rfl hl.1 rfl (Nat.le_of_ble_eq_true rfl) dX8_cover_50) (fun H locs C => ?_)
      refine lv_ladd S.1 S.2.1 dX8_cover_53 ?_
      refine lv_lconst (v := (1 : Int64)) S.1 S.2.1 dX8_cover_54 (by decide) ?_
      refine lv_lsub S.1 S.2.1 dX8_cover_55 ?_
      refine lv_lload S.1 S.2.1 dX8_cover_56 (lv_at hl 2 rfl) ?_
      refine W.lcmp S.1 S.2.1 dX8_cover_58 ?_
      refine lv_if_le (tgt := 68) S.1 S.2.1 dX8_cover_59 (by decide) (fun c6 => ?_) (fun c6 => ?_)
      · rw [if_pos (cmp_le.mp c6)] at hm
        refine lv_aload_n S.1 S.2.1 dX8_cover_68 rfl (lv_at hl 0 rfl) ?_
        refine g_get (k := 0) (ci := 7) (f := 19) (v := .ref (ad 17))  S C kiX8_cover_X8 kfX8_cover_59 rfl (by decide) shR_0 rfl rfl dX8_cover_69 ?_
        refine lv_aload_n S.1 S.2.1 dX8_cover_72 rfl (lv_at hl 0 rfl) ?_
        refine g_get (k := 0) (ci := 7) (f := 18) (v := .int (M.1 0 18))  S C kiX8_cover_X8 kfX8_cover_196 rfl (by decide) shR_0 rfl rfl dX8_cover_73 ?_
        refine lv_lload_n S.1 S.2.1 dX8_cover_76 rfl (lv_at hl 1 rfl) ?_
        obtain ⟨h7, hm⟩ := ck_ok hm
        obtain ⟨M8, eM8, hm⟩ := nmd_ok hm
        refine g_last S C (k := 17) shR_17 h7 dX8_cover_77 (fun H locs C => ?_)
        rw [← eM8] at C
        refine lv_aload_n S.1 S.2.1 dX8_cover_78 rfl (lv_at hl 0 rfl) ?_
        refine g_get (k := 0) (ci := 7) (f := 20) (v := .ref (ad 18))  S C kiX8_cover_X8 kfX8_cover_62 rfl (by decide) shR_0 rfl rfl dX8_cover_79 ?_
        refine lv_aload_n S.1 S.2.1 dX8_cover_82 rfl (lv_at hl 0 rfl) ?_
        refine g_get (k := 0) (ci := 7) (f := 18) (v := .int (M8.1 0 18))  S C kiX8_cover_X8 kfX8_cover_196 rfl (by decide) shR_0 rfl rfl dX8_cover_83 ?_
        refine lv_iload S.1 S.2.1 dX8_cover_86 (lv_at hl 3 rfl) ?_
        obtain ⟨h9, hm⟩ := ck_ok hm
        obtain ⟨M10, eM10, hm⟩ := nmd_ok hm
        refine g_iast S C (k := 18) shR_18 h9 dX8_cover_88 (fun H locs C => ?_)
        rw [← eM10] at C
        refine lv_aload_n S.1 S.2.1 dX8_cover_89 rfl (lv_at hl 0 rfl) ?_
        refine lv_dup S.1 S.2.1 dX8_cover_90 rfl ?_
        refine g_get (k := 0) (ci := 7) (f := 18) (v := .int (M10.1 0 18))  S C kiX8_cover_X8 kfX8_cover_196 rfl (by decide) shR_0 rfl rfl dX8_cover_91 ?_
        refine lv_iconst (v := (1 : Int32)) S.1 S.2.1 dX8_cover_94 (by decide) ?_
        refine lv_iadd S.1 S.2.1 dX8_cover_95 ?_
        obtain ⟨M11, eM11, hm⟩ := nmd_ok hm
        refine g_put (M' := (sI M10 0 18 ((M10.1 0 18) + (1 : Int32)))) (k := 0) (ci := 7) (f := 18) (v := .int ((M10.1 0 18) + (1 : Int32))) (ty := .int) S C kiX8_cover_X8 tyX8 tyX8_ok nmX8 kfX8_cover_196 rfl (by decide) rfl (by decide +kernel) rfl rfl shR_0 rfl (Nat.le_of_ble_eq_true rfl) (by rw [sI_at]; rfl) sI_off dX8_cover_96 (fun H locs C => ?_)
        rw [← eM11] at C
        refine lv_lload_n S.1 S.2.1 dX8_cover_99 rfl (lv_at hl 1 rfl) ?_
        refine lv_iload S.1 S.2.1 dX8_cover_100 (lv_at hl 3 rfl) ?_
        obtain ⟨r12, hcr12, hm⟩ := bd_ok hm
        refine gC_l C (gRS (As := [.int x7]) (rest := [.long x3]) 1 S C (c_X8_size l D cy ad M11 x7 r12 hcr12) gX8_cover_X8_size rfl (by decide +kernel) (by decide) rfl hl.1 rfl (Nat.le_of_ble_eq_true rfl) dX8_cover_102) (fun H locs C => ?_)
        refine lv_ladd S.1 S.2.1 dX8_cover_105 ?_
        obtain ⟨y13, ey13, hm⟩ := nmd_ok hm
        refine gNmJ ey13 ?_
        refine lv_lstore_n (lv' := [(3, .long y13), (0, .ref (ad 0)), (5, .long x5), (7, .int x7)]) S.1 S.2.1 dX8_cover_106 rfl hl (by decide) rfl (fun ls hl => ?_)
        refine lv_goto (tgt := 25) S.1 S.2.1 dX8_cover_107 (by decide) ?_
        exact kk25 M11 _ _ C y13 x5 ls (lv_sub hl [1, 0, 2] rfl) hm
      · rw [if_neg (fun q => c6 (cmp_le.mpr q))] at hm
        obtain ⟨y14, ey14, hm⟩ := nmd_ok hm
        refine lv_iinc (v := y14) (lv' := [(7, .int y14), (0, .ref (ad 0)), (3, .long x3), (5, .long x5)]) S.1 S.2.1 dX8_cover_62 hl (k := 3) rfl (by rw [ey14]; rfl) (by decide) rfl (fun ls hl => ?_)
        refine lv_goto (tgt := 35) S.1 S.2.1 dX8_cover_65 (by decide) ?_
        exact ih M _ _ C x3 x5 y14 ls (lv_sub hl [1, 2, 3, 0] rfl) hm
set_option maxHeartbeats 4000000 in
set_option maxRecDepth 100000 in
theorem wX8_cover_25 {p : Program} {l : Launch} {e : Env} {s : State} {m : MethodId} {args : Array Value} {below : List Frame} {meth : Method} {c : Code} {D : va_G} {cy : gCy} {ad : Nat → Nat} {r0 : (Int32 × gMem)} (S : CallFix p m c cX8_cover 8 s args wsX8_cover RX8) (hr : meth.sig.returnType = (some .int)) (hlk : meth.locks = false) : ∀ (n : Nat), ∀ (M : gMem) (H : Heap) (locs : List Loc), gW shR D cy ad s s.heap M H locs → ∀ (x3 : Int64) (x5 : Int64), ∀ (ls : Array Slot), lv_has ls 8 [(0, .ref (ad 0)), (3, .long x3), (5, .long x5)] → mX8_cover_25 n M x3 x5 = some r0 → W p l e (gR 1 20) s m args below meth c H locs 0 0 (MQ below (gQi shR D cy ad r0.1 r0.2) args s 0 0 (gA shR ad)) (F0 m 25 ls []) := by
  intro n
  induction n with
  | zero => intro M H locs C x3 x5 ls hl hm; exact absurd hm (by simp [mX8_cover_25])
  | succ n ih =>
    intro M H locs C x3 x5 ls hl hm
    rw [mX8_cover_25] at hm
    refine lv_lload_n S.1 S.2.1 dX8_cover_25 rfl (lv_at hl 1 rfl) ?_
    refine lv_lload S.1 S.2.1 dX8_cover_26 (lv_at hl 2 rfl) ?_
    refine W.lcmp S.1 S.2.1 dX8_cover_28 ?_
    refine lv_if_gt (tgt := 110) S.1 S.2.1 dX8_cover_29 (by decide) (fun c1 => ?_) (fun c1 => ?_)
    · rw [if_pos (cmp_gt.mp c1)] at hm
      refine lv_aload_n S.1 S.2.1 dX8_cover_110 rfl (lv_at hl 0 rfl) ?_
      refine g_get (k := 0) (ci := 7) (f := 18) (v := .int (M.1 0 18))  S C kiX8_cover_X8 kfX8_cover_196 rfl (by decide) shR_0 rfl rfl dX8_cover_111 ?_
      exact gReti S hr hlk C (pr1 hm) (pr2 hm) dX8_cover_114
    · rw [if_neg (fun q => c1 (cmp_gt.mpr q))] at hm
      refine lv_iconst (v := (0 : Int32)) S.1 S.2.1 dX8_cover_32 (by decide) ?_
      refine lv_istore (lv' := [(7, .int (0 : Int32)), (0, .ref (ad 0)), (3, .long x3), (5, .long x5)]) S.1 S.2.1 dX8_cover_33 hl (by decide) rfl (fun ls hl => ?_)
      exact wX8_cover_35 S hr hlk ih FU M _ _ C x3 x5 (0 : Int32) ls (lv_sub hl [1, 2, 3, 0] rfl) hm
set_option maxHeartbeats 4000000 in
set_option maxRecDepth 100000 in
theorem c_X8_cover (l : Launch) (D : va_G) (cy : gCy) (ad : Nat → Nat) (M : gMem) (x1 : Int32) (x2 : Int32) (r0 : (Int32 × gMem)) (hm : mX8_cover M x1 x2 = some r0) : Met l yX8_cover wsX8_cover (gR 1 20) (va_Pc [.ref (ad 0), .int x1, .int x2] (gP shR D cy ad M)) (gQi shR D cy ad r0.1 r0.2) 0 0 (gA shR ad) := by
  refine gEnter (cc := cX8_cover) (maxL := 8) (ret := (some .int)) (by decide) rfl (Nat.le_of_ble_eq_true rfl) ?_
  intro p e s m below meth c ls S hr hlk C hl
  have S : CallFix p m c cX8_cover 8 s _ wsX8_cover RX8 := S
  have hl : lv_has ls 8 [(0, .ref (ad 0)), (1, .int x1), (2, .int x2)] := hl
  rw [mX8_cover] at hm
  refine lv_iload_n S.1 S.2.1 dX8_cover_0 rfl (lv_at hl 1 rfl) ?_
  obtain ⟨r1, hcr1, hm⟩ := bd_ok hm
  refine gC_l C (gRS (As := [.int x1]) (rest := []) 1 S C (c_X8_number l D cy ad M x1 r1 hcr1) gX8_cover_X8_number rfl (by decide +kernel) (by decide) rfl hl.1 rfl (Nat.le_of_ble_eq_true rfl) dX8_cover_1) (fun H locs C => ?_)
  refine lv_lstore_n (lv' := [(3, .long r1), (0, .ref (ad 0)), (1, .int x1), (2, .int x2)]) S.1 S.2.1 dX8_cover_4 rfl hl (by decide) rfl (fun ls hl => ?_)
  refine lv_iload_n S.1 S.2.1 dX8_cover_5 rfl (lv_at hl 3 rfl) ?_
  obtain ⟨r2, hcr2, hm⟩ := bd_ok hm
  refine gC_l C (gRS (As := [.int x2]) (rest := []) 1 S C (c_X8_number l D cy ad M x2 r2 hcr2) gX8_cover_X8_number rfl (by decide +kernel) (by decide) rfl hl.1 rfl (Nat.le_of_ble_eq_true rfl) dX8_cover_6) (fun H locs C => ?_)
  refine lv_lstore (lv' := [(5, .long r2), (3, .long r1), (0, .ref (ad 0)), (1, .int x1), (2, .int x2)]) S.1 S.2.1 dX8_cover_9 hl (by decide) rfl (fun ls hl => ?_)
  refine lv_lload S.1 S.2.1 dX8_cover_11 (lv_at hl 0 rfl) ?_
  refine lv_lload_n S.1 S.2.1 dX8_cover_13 rfl (lv_at hl 1 rfl) ?_
  refine W.lcmp S.1 S.2.1 dX8_cover_14 ?_
  refine lv_if_ge (tgt := 20) S.1 S.2.1 dX8_cover_15 (by decide) (fun c3 => ?_) (fun c3 => ?_)
  · rw [if_pos (cmp_ge.mp c3)] at hm
    refine lv_aload_n S.1 S.2.1 dX8_cover_20 rfl (lv_at hl 2 rfl) ?_
    refine lv_iconst (v := (0 : Int32)) S.1 S.2.1 dX8_cover_21 (by decide) ?_
    obtain ⟨M4, eM4, hm⟩ := nmd_ok hm
    refine g_put (M' := (sI M 0 18 (0 : Int32))) (k := 0) (ci := 7) (f := 18) (v := .int (0 : Int32)) (ty := .int) S C kiX8_cover_X8 tyX8 tyX8_ok nmX8 kfX8_cover_196 rfl (by decide) rfl (by decide +kernel) rfl rfl shR_0 rfl (Nat.le_of_ble_eq_true rfl) (by rw [sI_at]; rfl) sI_off dX8_cover_22 (fun H locs C => ?_)
    rw [← eM4] at C
    exact wX8_cover_25 S hr hlk FU M4 _ _ C r1 r2 ls (lv_sub hl [2, 1, 0] rfl) hm
  · rw [if_neg (fun q => c3 (cmp_ge.mpr q))] at hm
    refine lv_iconst (v := (-1 : Int32)) S.1 S.2.1 dX8_cover_18 (by decide) ?_
    exact gReti S hr hlk C (pr1 hm) (pr2 hm) dX8_cover_19
def mX8_piece (M : gMem) (x1 : Int32) (x2 : Int32) : Option Int64 := (mX8_lies x1 (0 : Int32) ((M.1 0 18) - (1 : Int32))).bind fun r1 => if r1 = 0 then (some (-1 : Int64)) else (if x2 = 0 then (ck (inb x1 64) <| some (M.2 17 x1.toNatClampNeg)) else (if x2 = (1 : Int32) then (ck (inb x1 64) <| some ((M.1 18 x1.toNatClampNeg).toInt64)) else (some (-1 : Int64))))
set_option maxHeartbeats 4000000 in
set_option maxRecDepth 100000 in
theorem c_X8_piece (l : Launch) (D : va_G) (cy : gCy) (ad : Nat → Nat) (M : gMem) (x1 : Int32) (x2 : Int32) (r0 : Int64) (hm : mX8_piece M x1 x2 = some r0) : Met l yX8_piece wsX8_piece (gR 1 22) (va_Pc [.ref (ad 0), .int x1, .int x2] (gP shR D cy ad M)) (gQl shR D cy ad r0 M) 0 0 (gA shR ad) := by
  refine gEnter (cc := cX8_piece) (maxL := 3) (ret := (some .long)) (by decide) rfl (Nat.le_of_ble_eq_true rfl) ?_
  intro p e s m below meth c ls S hr hlk C hl
  have S : CallFix p m c cX8_piece 3 s _ wsX8_piece RX8 := S
  have hl : lv_has ls 3 [(0, .ref (ad 0)), (1, .int x1), (2, .int x2)] := hl
  rw [mX8_piece] at hm
  refine lv_iload_n S.1 S.2.1 dX8_piece_0 rfl (lv_at hl 1 rfl) ?_
  refine lv_iconst (v := (0 : Int32)) S.1 S.2.1 dX8_piece_1 (by decide) ?_
  refine lv_aload_n S.1 S.2.1 dX8_piece_2 rfl (lv_at hl 0 rfl) ?_
  refine g_get (k := 0) (ci := 7) (f := 18) (v := .int (M.1 0 18))  S C kiX8_piece_X8 kfX8_piece_196 rfl (by decide) shR_0 rfl rfl dX8_piece_3 ?_
  refine lv_iconst (v := (1 : Int32)) S.1 S.2.1 dX8_piece_6 (by decide) ?_
  refine lv_isub S.1 S.2.1 dX8_piece_7 ?_
  obtain ⟨r1, hcr1, hm⟩ := bd_ok hm
  refine gC_i C (gRS (As := [.int x1, .int (0 : Int32), .int ((M.1 0 18) - (1 : Int32))]) (rest := []) 3 S C (c_X8_lies l D cy ad M x1 (0 : Int32) ((M.1 0 18) - (1 : Int32)) r1 hcr1) gX8_piece_X8_lies rfl (by decide +kernel) (by decide) rfl hl.1 rfl (Nat.le_of_ble_eq_true rfl) dX8_piece_8) (fun H locs C => ?_)
  refine lv_if_ne (tgt := 18) S.1 S.2.1 dX8_piece_11 (by decide) (fun c2 => ?_) (fun c2 => ?_)
  · rw [if_neg c2] at hm
    refine lv_iload_n S.1 S.2.1 dX8_piece_18 rfl (lv_at hl 2 rfl) ?_
    refine lv_if_ne (tgt := 31) S.1 S.2.1 dX8_piece_19 (by decide) (fun c3 => ?_) (fun c3 => ?_)
    · rw [if_neg c3] at hm
      refine lv_iload_n S.1 S.2.1 dX8_piece_31 rfl (lv_at hl 2 rfl) ?_
      refine lv_iconst (v := (1 : Int32)) S.1 S.2.1 dX8_piece_32 (by decide) ?_
      refine lv_icmp_ne (tgt := 46) S.1 S.2.1 dX8_piece_33 (by decide) (fun c4 => ?_) (fun c4 => ?_)
      · rw [if_neg c4] at hm
        refine lv_ldc2 (v := (-1 : Int64)) S.1 S.2.1 S.2.2.2.1 (S.2.2.2.2 _ kcX8_piece_124) dX8_piece_46 ?_
        exact gRetl S hr hlk C (Option.some.inj hm) rfl dX8_piece_49
      · rw [if_pos c4] at hm
        refine lv_aload_n S.1 S.2.1 dX8_piece_36 rfl (lv_at hl 0 rfl) ?_
        refine g_get (k := 0) (ci := 7) (f := 20) (v := .ref (ad 18))  S C kiX8_piece_X8 kfX8_piece_62 rfl (by decide) shR_0 rfl rfl dX8_piece_37 ?_
        refine lv_iload_n S.1 S.2.1 dX8_piece_40 rfl (lv_at hl 1 rfl) ?_
        obtain ⟨h5, hm⟩ := ck_ok hm
        refine g_iald S C (k := 18) shR_18 h5 dX8_piece_41 ?_
        refine lv_i2l (v := (M.1 18 x1.toNatClampNeg).toInt64) S.1 S.2.1 dX8_piece_42 rfl ?_
        refine lv_goto (tgt := 49) S.1 S.2.1 dX8_piece_43 (by decide) ?_
        exact gRetl S hr hlk C (Option.some.inj hm) rfl dX8_piece_49
    · rw [if_pos c3] at hm
      refine lv_aload_n S.1 S.2.1 dX8_piece_22 rfl (lv_at hl 0 rfl) ?_
      refine g_get (k := 0) (ci := 7) (f := 19) (v := .ref (ad 17))  S C kiX8_piece_X8 kfX8_piece_59 rfl (by decide) shR_0 rfl rfl dX8_piece_23 ?_
      refine lv_iload_n S.1 S.2.1 dX8_piece_26 rfl (lv_at hl 1 rfl) ?_
      obtain ⟨h6, hm⟩ := ck_ok hm
      refine g_lald S C (k := 17) shR_17 h6 dX8_piece_27 ?_
      refine lv_goto (tgt := 49) S.1 S.2.1 dX8_piece_28 (by decide) ?_
      exact gRetl S hr hlk C (Option.some.inj hm) rfl dX8_piece_49
  · rw [if_pos c2] at hm
    refine lv_ldc2 (v := (-1 : Int64)) S.1 S.2.1 S.2.2.2.1 (S.2.2.2.2 _ kcX8_piece_124) dX8_piece_14 ?_
    exact gRetl S hr hlk C (Option.some.inj hm) rfl dX8_piece_17
def mX8_step (M : gMem) (x1 : Int32) (x2 : Int64) (x4 : Int32) (x5 : Int32) : Option gMem := ck (inb (M.1 0 22) 128) <| nmd (sI M 19 (M.1 0 22).toNatClampNeg x1) fun M2 => ck (inb (M2.1 0 22) 128) <| nmd (sJ M2 20 (M2.1 0 22).toNatClampNeg x2) fun M4 => ck (inb (M4.1 0 22) 128) <| nmd (sI M4 21 (M4.1 0 22).toNatClampNeg x4) fun M6 => ck (inb (M6.1 0 22) 128) <| nmd (sI M6 22 (M6.1 0 22).toNatClampNeg x5) fun M8 => nmd (sI M8 0 22 ((M8.1 0 22) + (1 : Int32))) fun M9 => some M9
set_option maxHeartbeats 4000000 in
set_option maxRecDepth 100000 in
theorem c_X8_step (l : Launch) (D : va_G) (cy : gCy) (ad : Nat → Nat) (M : gMem) (x1 : Int32) (x2 : Int64) (x4 : Int32) (x5 : Int32) (r0 : gMem) (hm : mX8_step M x1 x2 x4 x5 = some r0) : Met l yX8_step wsX8_step (gR 0 0) (va_Pc [.ref (ad 0), .int x1, .long x2, .int x4, .int x5] (gP shR D cy ad M)) (gQv shR D cy ad r0) 0 0 (gA shR ad) := by
  refine gEnter (cc := cX8_step) (maxL := 6) (ret := none) (by decide) rfl (Nat.le_of_ble_eq_true rfl) ?_
  intro p e s m below meth c ls S hr hlk C hl
  have S : CallFix p m c cX8_step 6 s _ wsX8_step RX8 := S
  have hl : lv_has ls 6 [(0, .ref (ad 0)), (1, .int x1), (2, .long x2), (4, .int x4), (5, .int x5)] := hl
  rw [mX8_step] at hm
  refine lv_aload_n S.1 S.2.1 dX8_step_0 rfl (lv_at hl 0 rfl) ?_
  refine g_get (k := 0) (ci := 7) (f := 23) (v := .ref (ad 19))  S C kiX8_step_X8 kfX8_step_65 rfl (by decide) shR_0 rfl rfl dX8_step_1 ?_
  refine lv_aload_n S.1 S.2.1 dX8_step_4 rfl (lv_at hl 0 rfl) ?_
  refine g_get (k := 0) (ci := 7) (f := 22) (v := .int (M.1 0 22))  S C kiX8_step_X8 kfX8_step_199 rfl (by decide) shR_0 rfl rfl dX8_step_5 ?_
  refine lv_iload_n S.1 S.2.1 dX8_step_8 rfl (lv_at hl 1 rfl) ?_
  obtain ⟨h1, hm⟩ := ck_ok hm
  obtain ⟨M2, eM2, hm⟩ := nmd_ok hm
  refine g_iast S C (k := 19) shR_19 h1 dX8_step_9 (fun H locs C => ?_)
  rw [← eM2] at C
  refine lv_aload_n S.1 S.2.1 dX8_step_10 rfl (lv_at hl 0 rfl) ?_
  refine g_get (k := 0) (ci := 7) (f := 24) (v := .ref (ad 20))  S C kiX8_step_X8 kfX8_step_68 rfl (by decide) shR_0 rfl rfl dX8_step_11 ?_
  refine lv_aload_n S.1 S.2.1 dX8_step_14 rfl (lv_at hl 0 rfl) ?_
  refine g_get (k := 0) (ci := 7) (f := 22) (v := .int (M2.1 0 22))  S C kiX8_step_X8 kfX8_step_199 rfl (by decide) shR_0 rfl rfl dX8_step_15 ?_
  refine lv_lload_n S.1 S.2.1 dX8_step_18 rfl (lv_at hl 2 rfl) ?_
  obtain ⟨h3, hm⟩ := ck_ok hm
  obtain ⟨M4, eM4, hm⟩ := nmd_ok hm
  refine g_last S C (k := 20) shR_20 h3 dX8_step_19 (fun H locs C => ?_)
  rw [← eM4] at C
  refine lv_aload_n S.1 S.2.1 dX8_step_20 rfl (lv_at hl 0 rfl) ?_
  refine g_get (k := 0) (ci := 7) (f := 25) (v := .ref (ad 21))  S C kiX8_step_X8 kfX8_step_71 rfl (by decide) shR_0 rfl rfl dX8_step_21 ?_
  refine lv_aload_n S.1 S.2.1 dX8_step_24 rfl (lv_at hl 0 rfl) ?_
  refine g_get (k := 0) (ci := 7) (f := 22) (v := .int (M4.1 0 22))  S C kiX8_step_X8 kfX8_step_199 rfl (by decide) shR_0 rfl rfl dX8_step_25 ?_
  refine lv_iload S.1 S.2.1 dX8_step_28 (lv_at hl 3 rfl) ?_
  obtain ⟨h5, hm⟩ := ck_ok hm
  obtain ⟨M6, eM6, hm⟩ := nmd_ok hm
  refine g_iast S C (k := 21) shR_21 h5 dX8_step_30 (fun H locs C => ?_)
  rw [← eM6] at C
  refine lv_aload_n S.1 S.2.1 dX8_step_31 rfl (lv_at hl 0 rfl) ?_
  refine g_get (k := 0) (ci := 7) (f := 26) (v := .ref (ad 22))  S C kiX8_step_X8 kfX8_step_74 rfl (by decide) shR_0 rfl rfl dX8_step_32 ?_
  refine lv_aload_n S.1 S.2.1 dX8_step_35 rfl (lv_at hl 0 rfl) ?_
  refine g_get (k := 0) (ci := 7) (f := 22) (v := .int (M6.1 0 22))  S C kiX8_step_X8 kfX8_step_199 rfl (by decide) shR_0 rfl rfl dX8_step_36 ?_
  refine lv_iload S.1 S.2.1 dX8_step_39 (lv_at hl 4 rfl) ?_
  obtain ⟨h7, hm⟩ := ck_ok hm
  obtain ⟨M8, eM8, hm⟩ := nmd_ok hm
  refine g_iast S C (k := 22) shR_22 h7 dX8_step_41 (fun H locs C => ?_)
  rw [← eM8] at C
  refine lv_aload_n S.1 S.2.1 dX8_step_42 rfl (lv_at hl 0 rfl) ?_
  refine lv_dup S.1 S.2.1 dX8_step_43 rfl ?_
  refine g_get (k := 0) (ci := 7) (f := 22) (v := .int (M8.1 0 22))  S C kiX8_step_X8 kfX8_step_199 rfl (by decide) shR_0 rfl rfl dX8_step_44 ?_
  refine lv_iconst (v := (1 : Int32)) S.1 S.2.1 dX8_step_47 (by decide) ?_
  refine lv_iadd S.1 S.2.1 dX8_step_48 ?_
  obtain ⟨M9, eM9, hm⟩ := nmd_ok hm
  refine g_put (M' := (sI M8 0 22 ((M8.1 0 22) + (1 : Int32)))) (k := 0) (ci := 7) (f := 22) (v := .int ((M8.1 0 22) + (1 : Int32))) (ty := .int) S C kiX8_step_X8 tyX8 tyX8_ok nmX8 kfX8_step_199 rfl (by decide) rfl (by decide +kernel) rfl rfl shR_0 rfl (Nat.le_of_ble_eq_true rfl) (by rw [sI_at]; rfl) sI_off dX8_step_49 (fun H locs C => ?_)
  rw [← eM9] at C
  exact gRetv S hr hlk C (Option.some.inj hm) dX8_step_52
def mX8_way_251 : Nat → gMem → Int32 → Int32 → Option (Int32 × gMem)
  | 0, _, _, _ => none
  | n + 1, M, x1, x3 => ck (inb x1 6) <| if (M.1 1 x1.toNatClampNeg) ≤ x3 then (some ((M.1 0 22), M)) else (ck (inb (((64 : Int32) * x1) + x3) 384) <| ck (inb x3 64) <| nmd (sJ M 23 x3.toNatClampNeg (M.2 2 (((64 : Int32) * x1) + x3).toNatClampNeg)) fun M5 => ck (inb (((64 : Int32) * x1) + x3) 384) <| ck (inb x3 64) <| nmd (sI M5 24 x3.toNatClampNeg (M5.1 3 (((64 : Int32) * x1) + x3).toNatClampNeg)) fun M8 => ck (inb (((64 : Int32) * x1) + x3) 384) <| ck (inb x3 64) <| nmd (sI M8 25 x3.toNatClampNeg (M8.1 4 (((64 : Int32) * x1) + x3).toNatClampNeg)) fun M11 => nmd (x3 + (1 : Int32)) fun y12 => mX8_way_251 n M11 x1 y12)
def mX8_way_159 (k150 : gMem → Int32 → Int32 → Int32 → Option (Int32 × gMem)) : Nat → gMem → Int32 → Int32 → Int32 → Int32 → Option (Int32 × gMem)
  | 0, _, _, _, _, _ => none
  | n + 1, M, x1, x2, x3, x4 => ck (inb x1 6) <| if (M.1 1 x1.toNatClampNeg) ≤ x4 then (nmd (x3 + (1 : Int32)) fun y3 => k150 M x1 x2 y3) else (nmd (((64 : Int32) * x1) + x4) fun y4 => ck (inb y4 384) <| if (M.1 3 y4.toNatClampNeg) = x3 then (ck (inb y4 384) <| (mX8_at M x2 (M.2 2 y4.toNatClampNeg) x3).bind fun r9 => if r9 = (-1 : Int32) then (ck (inb y4 384) <| ck (inb y4 384) <| (mX8_step M (0 : Int32) (M.2 2 y4.toNatClampNeg) x3 (M.1 4 y4.toNatClampNeg)).bind fun r14 => nmd (x4 + (1 : Int32)) fun y15 => mX8_way_159 k150 n r14 x1 x2 x3 y15) else (nmd (x4 + (1 : Int32)) fun y11 => mX8_way_159 k150 n M x1 x2 x3 y11)) else (nmd (x4 + (1 : Int32)) fun y7 => mX8_way_159 k150 n M x1 x2 x3 y7))
def mX8_way_150 : Nat → gMem → Int32 → Int32 → Int32 → Option (Int32 × gMem)
  | 0, _, _, _, _ => none
  | n + 1, M, x1, x2, x3 => if (32 : Int32) < x3 then (ck (inb x1 6) <| nmd (sI M 0 27 (M.1 1 x1.toNatClampNeg)) fun M3 => mX8_way_251 FU M3 x1 (0 : Int32)) else (mX8_way_159 (mX8_way_150 n) FU M x1 x2 x3 (0 : Int32))
def mX8_way_116 (k29 : gMem → Int32 → Int32 → Int32 → Option (Int32 × gMem)) (k36 : gMem → Int32 → Int32 → Int32 → Int32 → Option (Int32 × gMem)) (M : gMem) (x1 : Int32) (x2 : Int32) (x3 : Int32) (x4 : Int32) (x5 : Int32) : Option (Int32 × gMem) := ck (inb x5 384) <| ck (inb x5 384) <| (mX8_step M (1 : Int32) (M.2 2 x5.toNatClampNeg) x3 (M.1 4 x5.toNatClampNeg)).bind fun r3 => nmd (x4 + (1 : Int32)) fun y4 => k36 r3 x1 x2 x3 y4
def mX8_way_36 (k29 : gMem → Int32 → Int32 → Int32 → Option (Int32 × gMem)) : Nat → gMem → Int32 → Int32 → Int32 → Int32 → Option (Int32 × gMem)
  | 0, _, _, _, _, _ => none
  | n + 1, M, x1, x2, x3, x4 => ck (inb x2 6) <| if (M.1 1 x2.toNatClampNeg) ≤ x4 then (nmd (x3 + (-1 : Int32)) fun y3 => k29 M x1 x2 y3) else (nmd (((64 : Int32) * x2) + x4) fun y4 => ck (inb y4 384) <| ck (inb y4 384) <| (mX8_at M x1 (M.2 2 y4.toNatClampNeg) (M.1 3 y4.toNatClampNeg)).bind fun r7 => ck (inb y4 384) <| if (M.1 3 y4.toNatClampNeg) = x3 then (if r7 = (-1 : Int32) then (mX8_way_116 k29 (mX8_way_36 k29 n) M x1 x2 x3 x4 y4) else (ck (inb (((64 : Int32) * x1) + r7) 384) <| ck (inb y4 384) <| if (M.1 4 (((64 : Int32) * x1) + r7).toNatClampNeg) = (M.1 4 y4.toNatClampNeg) then (nmd (x4 + (1 : Int32)) fun y15 => mX8_way_36 k29 n M x1 x2 x3 y15) else (mX8_way_116 k29 (mX8_way_36 k29 n) M x1 x2 x3 x4 y4))) else (nmd (x4 + (1 : Int32)) fun y10 => mX8_way_36 k29 n M x1 x2 x3 y10))
def mX8_way_29 : Nat → gMem → Int32 → Int32 → Int32 → Option (Int32 × gMem)
  | 0, _, _, _, _ => none
  | n + 1, M, x1, x2, x3 => if x3 < 0 then (mX8_way_150 FU M x1 x2 (0 : Int32)) else (mX8_way_36 (mX8_way_29 n) FU M x1 x2 x3 (0 : Int32))
def mX8_way (M : gMem) (x1 : Int32) (x2 : Int32) : Option (Int32 × gMem) := (mX8_isBook x1).bind fun r1 => if r1 = 0 then (some ((-1 : Int32), M)) else ((mX8_isBook x2).bind fun r3 => if r3 = 0 then (some ((-1 : Int32), M)) else (nmd (sI M 0 21 (1 : Int32)) fun M5 => nmd (sI M5 0 22 (0 : Int32)) fun M6 => mX8_way_29 FU M6 x1 x2 (32 : Int32)))
set_option maxHeartbeats 4000000 in
set_option maxRecDepth 100000 in
theorem wX8_way_251 {p : Program} {l : Launch} {e : Env} {s : State} {m : MethodId} {args : Array Value} {below : List Frame} {meth : Method} {c : Code} {D : va_G} {cy : gCy} {ad : Nat → Nat} {r0 : (Int32 × gMem)} (S : CallFix p m c cX8_way 7 s args wsX8_way RX8) (hr : meth.sig.returnType = (some .int)) (hlk : meth.locks = false) : ∀ (n : Nat), ∀ (M : gMem) (H : Heap) (locs : List Loc), gW shR D cy ad s s.heap M H locs → ∀ (x1 : Int32) (x3 : Int32), ∀ (ls : Array Slot), lv_has ls 7 [(0, .ref (ad 0)), (1, .int x1), (3, .int x3)] → mX8_way_251 n M x1 x3 = some r0 → W p l e (gR 2 42) s m args below meth c H locs 0 0 (MQ below (gQi shR D cy ad r0.1 r0.2) args s 0 0 (gA shR ad)) (F0 m 251 ls []) := by
  intro n
  induction n with
  | zero => intro M H locs C x1 x3 ls hl hm; exact absurd hm (by simp [mX8_way_251])
  | succ n ih =>
    intro M H locs C x1 x3 ls hl hm
    rw [mX8_way_251] at hm
    refine lv_iload_n S.1 S.2.1 dX8_way_251 rfl (lv_at hl 2 rfl) ?_
    refine lv_aload_n S.1 S.2.1 dX8_way_252 rfl (lv_at hl 0 rfl) ?_
    refine g_get (k := 0) (ci := 7) (f := 0) (v := .ref (ad 1))  S C kiX8_way_X8 kfX8_way_7 rfl (by decide) shR_0 rfl rfl dX8_way_253 ?_
    refine lv_iload_n S.1 S.2.1 dX8_way_256 rfl (lv_at hl 1 rfl) ?_
    obtain ⟨h1, hm⟩ := ck_ok hm
    refine g_iald S C (k := 1) shR_1 h1 dX8_way_257 ?_
    refine lv_icmp_ge (tgt := 318) S.1 S.2.1 dX8_way_258 (by decide) (fun c2 => ?_) (fun c2 => ?_)
    · rw [if_pos c2] at hm
      refine lv_aload_n S.1 S.2.1 dX8_way_318 rfl (lv_at hl 0 rfl) ?_
      refine g_get (k := 0) (ci := 7) (f := 22) (v := .int (M.1 0 22))  S C kiX8_way_X8 kfX8_way_199 rfl (by decide) shR_0 rfl rfl dX8_way_319 ?_
      exact gReti S hr hlk C (pr1 hm) (pr2 hm) dX8_way_322
    · rw [if_neg c2] at hm
      refine lv_aload_n S.1 S.2.1 dX8_way_261 rfl (lv_at hl 0 rfl) ?_
      refine g_get (k := 0) (ci := 7) (f := 28) (v := .ref (ad 23))  S C kiX8_way_X8 kfX8_way_77 rfl (by decide) shR_0 rfl rfl dX8_way_262 ?_
      refine lv_iload_n S.1 S.2.1 dX8_way_265 rfl (lv_at hl 2 rfl) ?_
      refine lv_aload_n S.1 S.2.1 dX8_way_266 rfl (lv_at hl 0 rfl) ?_
      refine g_get (k := 0) (ci := 7) (f := 1) (v := .ref (ad 2))  S C kiX8_way_X8 kfX8_way_13 rfl (by decide) shR_0 rfl rfl dX8_way_267 ?_
      refine lv_bipush (v := (64 : Int32)) S.1 S.2.1 dX8_way_270 (by decide) ?_
      refine lv_iload_n S.1 S.2.1 dX8_way_272 rfl (lv_at hl 1 rfl) ?_
      refine lv_imul S.1 S.2.1 dX8_way_273 ?_
      refine lv_iload_n S.1 S.2.1 dX8_way_274 rfl (lv_at hl 2 rfl) ?_
      refine lv_iadd S.1 S.2.1 dX8_way_275 ?_
      obtain ⟨h3, hm⟩ := ck_ok hm
      refine g_lald S C (k := 2) shR_2 h3 dX8_way_276 ?_
      obtain ⟨h4, hm⟩ := ck_ok hm
      obtain ⟨M5, eM5, hm⟩ := nmd_ok hm
      refine g_last S C (k := 23) shR_23 h4 dX8_way_277 (fun H locs C => ?_)
      rw [← eM5] at C
      refine lv_aload_n S.1 S.2.1 dX8_way_278 rfl (lv_at hl 0 rfl) ?_
      refine g_get (k := 0) (ci := 7) (f := 29) (v := .ref (ad 24))  S C kiX8_way_X8 kfX8_way_80 rfl (by decide) shR_0 rfl rfl dX8_way_279 ?_
      refine lv_iload_n S.1 S.2.1 dX8_way_282 rfl (lv_at hl 2 rfl) ?_
      refine lv_aload_n S.1 S.2.1 dX8_way_283 rfl (lv_at hl 0 rfl) ?_
      refine g_get (k := 0) (ci := 7) (f := 2) (v := .ref (ad 3))  S C kiX8_way_X8 kfX8_way_17 rfl (by decide) shR_0 rfl rfl dX8_way_284 ?_
      refine lv_bipush (v := (64 : Int32)) S.1 S.2.1 dX8_way_287 (by decide) ?_
      refine lv_iload_n S.1 S.2.1 dX8_way_289 rfl (lv_at hl 1 rfl) ?_
      refine lv_imul S.1 S.2.1 dX8_way_290 ?_
      refine lv_iload_n S.1 S.2.1 dX8_way_291 rfl (lv_at hl 2 rfl) ?_
      refine lv_iadd S.1 S.2.1 dX8_way_292 ?_
      obtain ⟨h6, hm⟩ := ck_ok hm
      refine g_iald S C (k := 3) shR_3 h6 dX8_way_293 ?_
      obtain ⟨h7, hm⟩ := ck_ok hm
      obtain ⟨M8, eM8, hm⟩ := nmd_ok hm
      refine g_iast S C (k := 24) shR_24 h7 dX8_way_294 (fun H locs C => ?_)
      rw [← eM8] at C
      refine lv_aload_n S.1 S.2.1 dX8_way_295 rfl (lv_at hl 0 rfl) ?_
      refine g_get (k := 0) (ci := 7) (f := 30) (v := .ref (ad 25))  S C kiX8_way_X8 kfX8_way_83 rfl (by decide) shR_0 rfl rfl dX8_way_296 ?_
      refine lv_iload_n S.1 S.2.1 dX8_way_299 rfl (lv_at hl 2 rfl) ?_
      refine lv_aload_n S.1 S.2.1 dX8_way_300 rfl (lv_at hl 0 rfl) ?_
      refine g_get (k := 0) (ci := 7) (f := 3) (v := .ref (ad 4))  S C kiX8_way_X8 kfX8_way_20 rfl (by decide) shR_0 rfl rfl dX8_way_301 ?_
      refine lv_bipush (v := (64 : Int32)) S.1 S.2.1 dX8_way_304 (by decide) ?_
      refine lv_iload_n S.1 S.2.1 dX8_way_306 rfl (lv_at hl 1 rfl) ?_
      refine lv_imul S.1 S.2.1 dX8_way_307 ?_
      refine lv_iload_n S.1 S.2.1 dX8_way_308 rfl (lv_at hl 2 rfl) ?_
      refine lv_iadd S.1 S.2.1 dX8_way_309 ?_
      obtain ⟨h9, hm⟩ := ck_ok hm
      refine g_iald S C (k := 4) shR_4 h9 dX8_way_310 ?_
      obtain ⟨h10, hm⟩ := ck_ok hm
      obtain ⟨M11, eM11, hm⟩ := nmd_ok hm
      refine g_iast S C (k := 25) shR_25 h10 dX8_way_311 (fun H locs C => ?_)
      rw [← eM11] at C
      obtain ⟨y12, ey12, hm⟩ := nmd_ok hm
      refine lv_iinc (v := y12) (lv' := [(3, .int y12), (0, .ref (ad 0)), (1, .int x1)]) S.1 S.2.1 dX8_way_312 hl (k := 2) rfl (by rw [ey12]; rfl) (by decide) rfl (fun ls hl => ?_)
      refine lv_goto (tgt := 251) S.1 S.2.1 dX8_way_315 (by decide) ?_
      exact ih M11 _ _ C x1 y12 ls (lv_sub hl [1, 2, 0] rfl) hm
set_option maxHeartbeats 4000000 in
set_option maxRecDepth 100000 in
theorem wX8_way_159 {p : Program} {l : Launch} {e : Env} {s : State} {m : MethodId} {args : Array Value} {below : List Frame} {meth : Method} {c : Code} {D : va_G} {cy : gCy} {ad : Nat → Nat} {r0 : (Int32 × gMem)} (S : CallFix p m c cX8_way 7 s args wsX8_way RX8) (hr : meth.sig.returnType = (some .int)) (hlk : meth.locks = false) {k150 : gMem → Int32 → Int32 → Int32 → Option (Int32 × gMem)} (kk150 : ∀ (M : gMem) (H : Heap) (locs : List Loc), gW shR D cy ad s s.heap M H locs → ∀ (x1 : Int32) (x2 : Int32) (x3 : Int32), ∀ (ls : Array Slot), lv_has ls 7 [(0, .ref (ad 0)), (1, .int x1), (2, .int x2), (3, .int x3)] → k150 M x1 x2 x3 = some r0 → W p l e (gR 2 42) s m args below meth c H locs 0 0 (MQ below (gQi shR D cy ad r0.1 r0.2) args s 0 0 (gA shR ad)) (F0 m 150 ls [])) : ∀ (n : Nat), ∀ (M : gMem) (H : Heap) (locs : List Loc), gW shR D cy ad s s.heap M H locs → ∀ (x1 : Int32) (x2 : Int32) (x3 : Int32) (x4 : Int32), ∀ (ls : Array Slot), lv_has ls 7 [(0, .ref (ad 0)), (1, .int x1), (2, .int x2), (3, .int x3), (4, .int x4)] → mX8_way_159 k150 n M x1 x2 x3 x4 = some r0 → W p l e (gR 2 42) s m args below meth c H locs 0 0 (MQ below (gQi shR D cy ad r0.1 r0.2) args s 0 0 (gA shR ad)) (F0 m 159 ls []) := by
  intro n
  induction n with
  | zero => intro M H locs C x1 x2 x3 x4 ls hl hm; exact absurd hm (by simp [mX8_way_159])
  | succ n ih =>
    intro M H locs C x1 x2 x3 x4 ls hl hm
    rw [mX8_way_159] at hm
    refine lv_iload S.1 S.2.1 dX8_way_159 (lv_at hl 4 rfl) ?_
    refine lv_aload_n S.1 S.2.1 dX8_way_161 rfl (lv_at hl 0 rfl) ?_
    refine g_get (k := 0) (ci := 7) (f := 0) (v := .ref (ad 1))  S C kiX8_way_X8 kfX8_way_7 rfl (by decide) shR_0 rfl rfl dX8_way_162 ?_
    refine lv_iload_n S.1 S.2.1 dX8_way_165 rfl (lv_at hl 1 rfl) ?_
    obtain ⟨h1, hm⟩ := ck_ok hm
    refine g_iald S C (k := 1) shR_1 h1 dX8_way_166 ?_
    refine lv_icmp_ge (tgt := 233) S.1 S.2.1 dX8_way_167 (by decide) (fun c2 => ?_) (fun c2 => ?_)
    · rw [if_pos c2] at hm
      obtain ⟨y3, ey3, hm⟩ := nmd_ok hm
      refine lv_iinc (v := y3) (lv' := [(3, .int y3), (0, .ref (ad 0)), (1, .int x1), (2, .int x2), (4, .int x4)]) S.1 S.2.1 dX8_way_233 hl (k := 3) rfl (by rw [ey3]; rfl) (by decide) rfl (fun ls hl => ?_)
      refine lv_goto (tgt := 150) S.1 S.2.1 dX8_way_236 (by decide) ?_
      exact kk150 M _ _ C x1 x2 y3 ls (lv_sub hl [1, 2, 3, 0] rfl) hm
    · rw [if_neg c2] at hm
      refine lv_bipush (v := (64 : Int32)) S.1 S.2.1 dX8_way_170 (by decide) ?_
      refine lv_iload_n S.1 S.2.1 dX8_way_172 rfl (lv_at hl 1 rfl) ?_
      refine lv_imul S.1 S.2.1 dX8_way_173 ?_
      refine lv_iload S.1 S.2.1 dX8_way_174 (lv_at hl 4 rfl) ?_
      refine lv_iadd S.1 S.2.1 dX8_way_176 ?_
      obtain ⟨y4, ey4, hm⟩ := nmd_ok hm
      refine gNmI ey4 ?_
      refine lv_istore (lv' := [(5, .int y4), (0, .ref (ad 0)), (1, .int x1), (2, .int x2), (3, .int x3), (4, .int x4)]) S.1 S.2.1 dX8_way_177 hl (by decide) rfl (fun ls hl => ?_)
      refine lv_aload_n S.1 S.2.1 dX8_way_179 rfl (lv_at hl 1 rfl) ?_
      refine g_get (k := 0) (ci := 7) (f := 2) (v := .ref (ad 3))  S C kiX8_way_X8 kfX8_way_17 rfl (by decide) shR_0 rfl rfl dX8_way_180 ?_
      refine lv_iload S.1 S.2.1 dX8_way_183 (lv_at hl 0 rfl) ?_
      obtain ⟨h5, hm⟩ := ck_ok hm
      refine g_iald S C (k := 3) shR_3 h5 dX8_way_185 ?_
      refine lv_iload_n S.1 S.2.1 dX8_way_186 rfl (lv_at hl 4 rfl) ?_
      refine lv_icmp_ne (tgt := 227) S.1 S.2.1 dX8_way_187 (by decide) (fun c6 => ?_) (fun c6 => ?_)
      · rw [if_neg c6] at hm
        obtain ⟨y7, ey7, hm⟩ := nmd_ok hm
        refine lv_iinc (v := y7) (lv' := [(4, .int y7), (5, .int y4), (0, .ref (ad 0)), (1, .int x1), (2, .int x2), (3, .int x3)]) S.1 S.2.1 dX8_way_227 hl (k := 5) rfl (by rw [ey7]; rfl) (by decide) rfl (fun ls hl => ?_)
        refine lv_goto (tgt := 159) S.1 S.2.1 dX8_way_230 (by decide) ?_
        exact ih M _ _ C x1 x2 x3 y7 ls (lv_sub hl [2, 3, 4, 5, 0] rfl) hm
      · rw [if_pos c6] at hm
        refine lv_aload_n S.1 S.2.1 dX8_way_190 rfl (lv_at hl 1 rfl) ?_
        refine lv_iload_n S.1 S.2.1 dX8_way_191 rfl (lv_at hl 3 rfl) ?_
        refine lv_aload_n S.1 S.2.1 dX8_way_192 rfl (lv_at hl 1 rfl) ?_
        refine g_get (k := 0) (ci := 7) (f := 1) (v := .ref (ad 2))  S C kiX8_way_X8 kfX8_way_13 rfl (by decide) shR_0 rfl rfl dX8_way_193 ?_
        refine lv_iload S.1 S.2.1 dX8_way_196 (lv_at hl 0 rfl) ?_
        obtain ⟨h8, hm⟩ := ck_ok hm
        refine g_lald S C (k := 2) shR_2 h8 dX8_way_198 ?_
        refine lv_iload_n S.1 S.2.1 dX8_way_199 rfl (lv_at hl 4 rfl) ?_
        obtain ⟨r9, hcr9, hm⟩ := bd_ok hm
        refine gC_i C (gRV (k := 0) (ci := 7) (r := (RX8, TX8, 34)) (As := [.int x2, .long (M.2 2 y4.toNatClampNeg), .int x3]) (rest := []) 3 S C (c_X8_at l D cy ad M x2 (M.2 2 y4.toNatClampNeg) x3 r9 hcr9) gX8_way_X8_at rfl (by decide +kernel) (by decide) shR_0 rfl rfl rfl hl.1 rfl (Nat.le_of_ble_eq_true rfl) dX8_way_200) (fun H locs C => ?_)
        refine lv_iconst (v := (-1 : Int32)) S.1 S.2.1 dX8_way_203 (by decide) ?_
        refine lv_icmp_ne (tgt := 227) S.1 S.2.1 dX8_way_204 (by decide) (fun c10 => ?_) (fun c10 => ?_)
        · rw [if_neg c10] at hm
          obtain ⟨y11, ey11, hm⟩ := nmd_ok hm
          refine lv_iinc (v := y11) (lv' := [(4, .int y11), (5, .int y4), (0, .ref (ad 0)), (1, .int x1), (2, .int x2), (3, .int x3)]) S.1 S.2.1 dX8_way_227 hl (k := 5) rfl (by rw [ey11]; rfl) (by decide) rfl (fun ls hl => ?_)
          refine lv_goto (tgt := 159) S.1 S.2.1 dX8_way_230 (by decide) ?_
          exact ih M _ _ C x1 x2 x3 y11 ls (lv_sub hl [2, 3, 4, 5, 0] rfl) hm
        · rw [if_pos c10] at hm
          refine lv_aload_n S.1 S.2.1 dX8_way_207 rfl (lv_at hl 1 rfl) ?_
          refine lv_iconst (v := (0 : Int32)) S.1 S.2.1 dX8_way_208 (by decide) ?_
          refine lv_aload_n S.1 S.2.1 dX8_way_209 rfl (lv_at hl 1 rfl) ?_
          refine g_get (k := 0) (ci := 7) (f := 1) (v := .ref (ad 2))  S C kiX8_way_X8 kfX8_way_13 rfl (by decide) shR_0 rfl rfl dX8_way_210 ?_
          refine lv_iload S.1 S.2.1 dX8_way_213 (lv_at hl 0 rfl) ?_
          obtain ⟨h12, hm⟩ := ck_ok hm
          refine g_lald S C (k := 2) shR_2 h12 dX8_way_215 ?_
          refine lv_iload_n S.1 S.2.1 dX8_way_216 rfl (lv_at hl 4 rfl) ?_
          refine lv_aload_n S.1 S.2.1 dX8_way_217 rfl (lv_at hl 1 rfl) ?_
          refine g_get (k := 0) (ci := 7) (f := 3) (v := .ref (ad 4))  S C kiX8_way_X8 kfX8_way_20 rfl (by decide) shR_0 rfl rfl dX8_way_218 ?_
          refine lv_iload S.1 S.2.1 dX8_way_221 (lv_at hl 0 rfl) ?_
          obtain ⟨h13, hm⟩ := ck_ok hm
          refine g_iald S C (k := 4) shR_4 h13 dX8_way_223 ?_
          obtain ⟨r14, hcr14, hm⟩ := bd_ok hm
          refine gC_v C (gRV (k := 0) (ci := 7) (r := (RX8, TX8, 34)) (As := [.int (0 : Int32), .long (M.2 2 y4.toNatClampNeg), .int x3, .int (M.1 4 y4.toNatClampNeg)]) (rest := []) 4 S C (c_X8_step l D cy ad M (0 : Int32) (M.2 2 y4.toNatClampNeg) x3 (M.1 4 y4.toNatClampNeg) r14 hcr14) gX8_way_X8_step rfl (by decide +kernel) (by decide) shR_0 rfl rfl rfl hl.1 rfl (Nat.le_of_ble_eq_true rfl) dX8_way_224) (fun H locs C => ?_)
          obtain ⟨y15, ey15, hm⟩ := nmd_ok hm
          refine lv_iinc (v := y15) (lv' := [(4, .int y15), (5, .int y4), (0, .ref (ad 0)), (1, .int x1), (2, .int x2), (3, .int x3)]) S.1 S.2.1 dX8_way_227 hl (k := 5) rfl (by rw [ey15]; rfl) (by decide) rfl (fun ls hl => ?_)
          refine lv_goto (tgt := 159) S.1 S.2.1 dX8_way_230 (by decide) ?_
          exact ih r14 _ _ C x1 x2 x3 y15 ls (lv_sub hl [2, 3, 4, 5, 0] rfl) hm
set_option maxHeartbeats 4000000 in
set_option maxRecDepth 100000 in
theorem wX8_way_150 {p : Program} {l : Launch} {e : Env} {s : State} {m : MethodId} {args : Array Value} {below : List Frame} {meth : Method} {c : Code} {D : va_G} {cy : gCy} {ad : Nat → Nat} {r0 : (Int32 × gMem)} (S : CallFix p m c cX8_way 7 s args wsX8_way RX8) (hr : meth.sig.returnType = (some .int)) (hlk : meth.locks = false) : ∀ (n : Nat), ∀ (M : gMem) (H : Heap) (locs : List Loc), gW shR D cy ad s s.heap M H locs → ∀ (x1 : Int32) (x2 : Int32) (x3 : Int32), ∀ (ls : Array Slot), lv_has ls 7 [(0, .ref (ad 0)), (1, .int x1), (2, .int x2), (3, .int x3)] → mX8_way_150 n M x1 x2 x3 = some r0 → W p l e (gR 2 42) s m args below meth c H locs 0 0 (MQ below (gQi shR D cy ad r0.1 r0.2) args s 0 0 (gA shR ad)) (F0 m 150 ls []) := by
  intro n
  induction n with
  | zero => intro M H locs C x1 x2 x3 ls hl hm; exact absurd hm (by simp [mX8_way_150])
  | succ n ih =>
    intro M H locs C x1 x2 x3 ls hl hm
    rw [mX8_way_150] at hm
    refine lv_iload_n S.1 S.2.1 dX8_way_150 rfl (lv_at hl 3 rfl) ?_
    refine lv_bipush (v := (32 : Int32)) S.1 S.2.1 dX8_way_151 (by decide) ?_
    refine lv_icmp_gt (tgt := 239) S.1 S.2.1 dX8_way_153 (by decide) (fun c1 => ?_) (fun c1 => ?_)
    · rw [if_pos c1] at hm
      refine lv_aload_n S.1 S.2.1 dX8_way_239 rfl (lv_at hl 0 rfl) ?_
      refine lv_aload_n S.1 S.2.1 dX8_way_240 rfl (lv_at hl 0 rfl) ?_
      refine g_get (k := 0) (ci := 7) (f := 0) (v := .ref (ad 1))  S C kiX8_way_X8 kfX8_way_7 rfl (by decide) shR_0 rfl rfl dX8_way_241 ?_
      refine lv_iload_n S.1 S.2.1 dX8_way_244 rfl (lv_at hl 1 rfl) ?_
      obtain ⟨h2, hm⟩ := ck_ok hm
      refine g_iald S C (k := 1) shR_1 h2 dX8_way_245 ?_
      obtain ⟨M3, eM3, hm⟩ := nmd_ok hm
      refine g_put (M' := (sI M 0 27 (M.1 1 x1.toNatClampNeg))) (k := 0) (ci := 7) (f := 27) (v := .int (M.1 1 x1.toNatClampNeg)) (ty := .int) S C kiX8_way_X8 tyX8 tyX8_ok nmX8 kfX8_way_209 rfl (by decide) rfl (by decide +kernel) rfl rfl shR_0 rfl (Nat.le_of_ble_eq_true rfl) (by rw [sI_at]; rfl) sI_off dX8_way_246 (fun H locs C => ?_)
      rw [← eM3] at C
      refine lv_iconst (v := (0 : Int32)) S.1 S.2.1 dX8_way_249 (by decide) ?_
      refine lv_istore_n (lv' := [(3, .int (0 : Int32)), (0, .ref (ad 0)), (1, .int x1), (2, .int x2)]) S.1 S.2.1 dX8_way_250 rfl hl (by decide) rfl (fun ls hl => ?_)
      exact wX8_way_251 S hr hlk FU M3 _ _ C x1 (0 : Int32) ls (lv_sub hl [1, 2, 0] rfl) hm
    · rw [if_neg c1] at hm
      refine lv_iconst (v := (0 : Int32)) S.1 S.2.1 dX8_way_156 (by decide) ?_
      refine lv_istore (lv' := [(4, .int (0 : Int32)), (0, .ref (ad 0)), (1, .int x1), (2, .int x2), (3, .int x3)]) S.1 S.2.1 dX8_way_157 hl (by decide) rfl (fun ls hl => ?_)
      exact wX8_way_159 S hr hlk ih FU M _ _ C x1 x2 x3 (0 : Int32) ls (lv_sub hl [1, 2, 3, 4, 0] rfl) hm
set_option maxHeartbeats 4000000 in
set_option maxRecDepth 100000 in
theorem wX8_way_116 {p : Program} {l : Launch} {e : Env} {s : State} {m : MethodId} {args : Array Value} {below : List Frame} {meth : Method} {c : Code} {D : va_G} {cy : gCy} {ad : Nat → Nat} {r0 : (Int32 × gMem)} (S : CallFix p m c cX8_way 7 s args wsX8_way RX8) (hr : meth.sig.returnType = (some .int)) (hlk : meth.locks = false) {k29 : gMem → Int32 → Int32 → Int32 → Option (Int32 × gMem)} (kk29 : ∀ (M : gMem) (H : Heap) (locs : List Loc), gW shR D cy ad s s.heap M H locs → ∀ (x1 : Int32) (x2 : Int32) (x3 : Int32), ∀ (ls : Array Slot), lv_has ls 7 [(0, .ref (ad 0)), (1, .int x1), (2, .int x2), (3, .int x3)] → k29 M x1 x2 x3 = some r0 → W p l e (gR 2 42) s m args below meth c H locs 0 0 (MQ below (gQi shR D cy ad r0.1 r0.2) args s 0 0 (gA shR ad)) (F0 m 29 ls [])) {k36 : gMem → Int32 → Int32 → Int32 → Int32 → Option (Int32 × gMem)} (kk36 : ∀ (M : gMem) (H : Heap) (locs : List Loc), gW shR D cy ad s s.heap M H locs → ∀ (x1 : Int32) (x2 : Int32) (x3 : Int32) (x4 : Int32), ∀ (ls : Array Slot), lv_has ls 7 [(0, .ref (ad 0)), (1, .int x1), (2, .int x2), (3, .int x3), (4, .int x4)] → k36 M x1 x2 x3 x4 = some r0 → W p l e (gR 2 42) s m args below meth c H locs 0 0 (MQ below (gQi shR D cy ad r0.1 r0.2) args s 0 0 (gA shR ad)) (F0 m 36 ls [])) : ∀ (M : gMem) (H : Heap) (locs : List Loc), gW shR D cy ad s s.heap M H locs → ∀ (x1 : Int32) (x2 : Int32) (x3 : Int32) (x4 : Int32) (x5 : Int32), ∀ (ls : Array Slot), lv_has ls 7 [(0, .ref (ad 0)), (1, .int x1), (2, .int x2), (3, .int x3), (4, .int x4), (5, .int x5)] → mX8_way_116 k29 k36 M x1 x2 x3 x4 x5 = some r0 → W p l e (gR 2 42) s m args below meth c H locs 0 0 (MQ below (gQi shR D cy ad r0.1 r0.2) args s 0 0 (gA shR ad)) (F0 m 116 ls []) := by
  intro M H locs C x1 x2 x3 x4 x5 ls hl hm
  rw [mX8_way_116] at hm
  refine lv_aload_n S.1 S.2.1 dX8_way_116 rfl (lv_at hl 0 rfl) ?_
  refine lv_iconst (v := (1 : Int32)) S.1 S.2.1 dX8_way_117 (by decide) ?_
  refine lv_aload_n S.1 S.2.1 dX8_way_118 rfl (lv_at hl 0 rfl) ?_
  refine g_get (k := 0) (ci := 7) (f := 1) (v := .ref (ad 2))  S C kiX8_way_X8 kfX8_way_13 rfl (by decide) shR_0 rfl rfl dX8_way_119 ?_
  refine lv_iload S.1 S.2.1 dX8_way_122 (lv_at hl 5 rfl) ?_
  obtain ⟨h1, hm⟩ := ck_ok hm
  refine g_lald S C (k := 2) shR_2 h1 dX8_way_124 ?_
  refine lv_iload_n S.1 S.2.1 dX8_way_125 rfl (lv_at hl 3 rfl) ?_
  refine lv_aload_n S.1 S.2.1 dX8_way_126 rfl (lv_at hl 0 rfl) ?_
  refine g_get (k := 0) (ci := 7) (f := 3) (v := .ref (ad 4))  S C kiX8_way_X8 kfX8_way_20 rfl (by decide) shR_0 rfl rfl dX8_way_127 ?_
  refine lv_iload S.1 S.2.1 dX8_way_130 (lv_at hl 5 rfl) ?_
  obtain ⟨h2, hm⟩ := ck_ok hm
  refine g_iald S C (k := 4) shR_4 h2 dX8_way_132 ?_
  obtain ⟨r3, hcr3, hm⟩ := bd_ok hm
  refine gC_v C (gRV (k := 0) (ci := 7) (r := (RX8, TX8, 34)) (As := [.int (1 : Int32), .long (M.2 2 x5.toNatClampNeg), .int x3, .int (M.1 4 x5.toNatClampNeg)]) (rest := []) 4 S C (c_X8_step l D cy ad M (1 : Int32) (M.2 2 x5.toNatClampNeg) x3 (M.1 4 x5.toNatClampNeg) r3 hcr3) gX8_way_X8_step rfl (by decide +kernel) (by decide) shR_0 rfl rfl rfl hl.1 rfl (Nat.le_of_ble_eq_true rfl) dX8_way_133) (fun H locs C => ?_)
  obtain ⟨y4, ey4, hm⟩ := nmd_ok hm
  refine lv_iinc (v := y4) (lv' := [(4, .int y4), (0, .ref (ad 0)), (1, .int x1), (2, .int x2), (3, .int x3), (5, .int x5)]) S.1 S.2.1 dX8_way_136 hl (k := 4) rfl (by rw [ey4]; rfl) (by decide) rfl (fun ls hl => ?_)
  refine lv_goto (tgt := 36) S.1 S.2.1 dX8_way_139 (by decide) ?_
  exact kk36 r3 _ _ C x1 x2 x3 y4 ls (lv_sub hl [1, 2, 3, 4, 0] rfl) hm
set_option maxHeartbeats 4000000 in
set_option maxRecDepth 100000 in
theorem wX8_way_36 {p : Program} {l : Launch} {e : Env} {s : State} {m : MethodId} {args : Array Value} {below : List Frame} {meth : Method} {c : Code} {D : va_G} {cy : gCy} {ad : Nat → Nat} {r0 : (Int32 × gMem)} (S : CallFix p m c cX8_way 7 s args wsX8_way RX8) (hr : meth.sig.returnType = (some .int)) (hlk : meth.locks = false) {k29 : gMem → Int32 → Int32 → Int32 → Option (Int32 × gMem)} (kk29 : ∀ (M : gMem) (H : Heap) (locs : List Loc), gW shR D cy ad s s.heap M H locs → ∀ (x1 : Int32) (x2 : Int32) (x3 : Int32), ∀ (ls : Array Slot), lv_has ls 7 [(0, .ref (ad 0)), (1, .int x1), (2, .int x2), (3, .int x3)] → k29 M x1 x2 x3 = some r0 → W p l e (gR 2 42) s m args below meth c H locs 0 0 (MQ below (gQi shR D cy ad r0.1 r0.2) args s 0 0 (gA shR ad)) (F0 m 29 ls [])) : ∀ (n : Nat), ∀ (M : gMem) (H : Heap) (locs : List Loc), gW shR D cy ad s s.heap M H locs → ∀ (x1 : Int32) (x2 : Int32) (x3 : Int32) (x4 : Int32), ∀ (ls : Array Slot), lv_has ls 7 [(0, .ref (ad 0)), (1, .int x1), (2, .int x2), (3, .int x3), (4, .int x4)] → mX8_way_36 k29 n M x1 x2 x3 x4 = some r0 → W p l e (gR 2 42) s m args below meth c H locs 0 0 (MQ below (gQi shR D cy ad r0.1 r0.2) args s 0 0 (gA shR ad)) (F0 m 36 ls []) := by
  intro n
  induction n with
  | zero => intro M H locs C x1 x2 x3 x4 ls hl hm; exact absurd hm (by simp [mX8_way_36])
  | succ n ih =>
    intro M H locs C x1 x2 x3 x4 ls hl hm
    rw [mX8_way_36] at hm
    refine lv_iload S.1 S.2.1 dX8_way_36 (lv_at hl 4 rfl) ?_
    refine lv_aload_n S.1 S.2.1 dX8_way_38 rfl (lv_at hl 0 rfl) ?_
    refine g_get (k := 0) (ci := 7) (f := 0) (v := .ref (ad 1))  S C kiX8_way_X8 kfX8_way_7 rfl (by decide) shR_0 rfl rfl dX8_way_39 ?_
    refine lv_iload_n S.1 S.2.1 dX8_way_42 rfl (lv_at hl 2 rfl) ?_
    obtain ⟨h1, hm⟩ := ck_ok hm
    refine g_iald S C (k := 1) shR_1 h1 dX8_way_43 ?_
    refine lv_icmp_ge (tgt := 142) S.1 S.2.1 dX8_way_44 (by decide) (fun c2 => ?_) (fun c2 => ?_)
    · rw [if_pos c2] at hm
      obtain ⟨y3, ey3, hm⟩ := nmd_ok hm
      refine lv_iinc (v := y3) (lv' := [(3, .int y3), (0, .ref (ad 0)), (1, .int x1), (2, .int x2), (4, .int x4)]) S.1 S.2.1 dX8_way_142 hl (k := 3) rfl (by rw [ey3]; rfl) (by decide) rfl (fun ls hl => ?_)
      refine lv_goto (tgt := 29) S.1 S.2.1 dX8_way_145 (by decide) ?_
      exact kk29 M _ _ C x1 x2 y3 ls (lv_sub hl [1, 2, 3, 0] rfl) hm
    · rw [if_neg c2] at hm
      refine lv_bipush (v := (64 : Int32)) S.1 S.2.1 dX8_way_47 (by decide) ?_
      refine lv_iload_n S.1 S.2.1 dX8_way_49 rfl (lv_at hl 2 rfl) ?_
      refine lv_imul S.1 S.2.1 dX8_way_50 ?_
      refine lv_iload S.1 S.2.1 dX8_way_51 (lv_at hl 4 rfl) ?_
      refine lv_iadd S.1 S.2.1 dX8_way_53 ?_
      obtain ⟨y4, ey4, hm⟩ := nmd_ok hm
      refine gNmI ey4 ?_
      refine lv_istore (lv' := [(5, .int y4), (0, .ref (ad 0)), (1, .int x1), (2, .int x2), (3, .int x3), (4, .int x4)]) S.1 S.2.1 dX8_way_54 hl (by decide) rfl (fun ls hl => ?_)
      refine lv_aload_n S.1 S.2.1 dX8_way_56 rfl (lv_at hl 1 rfl) ?_
      refine lv_iload_n S.1 S.2.1 dX8_way_57 rfl (lv_at hl 2 rfl) ?_
      refine lv_aload_n S.1 S.2.1 dX8_way_58 rfl (lv_at hl 1 rfl) ?_
      refine g_get (k := 0) (ci := 7) (f := 1) (v := .ref (ad 2))  S C kiX8_way_X8 kfX8_way_13 rfl (by decide) shR_0 rfl rfl dX8_way_59 ?_
      refine lv_iload S.1 S.2.1 dX8_way_62 (lv_at hl 0 rfl) ?_
      obtain ⟨h5, hm⟩ := ck_ok hm
      refine g_lald S C (k := 2) shR_2 h5 dX8_way_64 ?_
      refine lv_aload_n S.1 S.2.1 dX8_way_65 rfl (lv_at hl 1 rfl) ?_
      refine g_get (k := 0) (ci := 7) (f := 2) (v := .ref (ad 3))  S C kiX8_way_X8 kfX8_way_17 rfl (by decide) shR_0 rfl rfl dX8_way_66 ?_
      refine lv_iload S.1 S.2.1 dX8_way_69 (lv_at hl 0 rfl) ?_
      obtain ⟨h6, hm⟩ := ck_ok hm
      refine g_iald S C (k := 3) shR_3 h6 dX8_way_71 ?_
      obtain ⟨r7, hcr7, hm⟩ := bd_ok hm
      refine gC_i C (gRV (k := 0) (ci := 7) (r := (RX8, TX8, 34)) (As := [.int x1, .long (M.2 2 y4.toNatClampNeg), .int (M.1 3 y4.toNatClampNeg)]) (rest := []) 3 S C (c_X8_at l D cy ad M x1 (M.2 2 y4.toNatClampNeg) (M.1 3 y4.toNatClampNeg) r7 hcr7) gX8_way_X8_at rfl (by decide +kernel) (by decide) shR_0 rfl rfl rfl hl.1 rfl (Nat.le_of_ble_eq_true rfl) dX8_way_72) (fun H locs C => ?_)
      refine lv_istore (lv' := [(6, .int r7), (5, .int y4), (0, .ref (ad 0)), (1, .int x1), (2, .int x2), (3, .int x3), (4, .int x4)]) S.1 S.2.1 dX8_way_75 hl (by decide) rfl (fun ls hl => ?_)
      refine lv_aload_n S.1 S.2.1 dX8_way_77 rfl (lv_at hl 2 rfl) ?_
      refine g_get (k := 0) (ci := 7) (f := 2) (v := .ref (ad 3))  S C kiX8_way_X8 kfX8_way_17 rfl (by decide) shR_0 rfl rfl dX8_way_78 ?_
      refine lv_iload S.1 S.2.1 dX8_way_81 (lv_at hl 1 rfl) ?_
      obtain ⟨h8, hm⟩ := ck_ok hm
      refine g_iald S C (k := 3) shR_3 h8 dX8_way_83 ?_
      refine lv_iload_n S.1 S.2.1 dX8_way_84 rfl (lv_at hl 5 rfl) ?_
      refine lv_icmp_ne (tgt := 136) S.1 S.2.1 dX8_way_85 (by decide) (fun c9 => ?_) (fun c9 => ?_)
      · rw [if_neg c9] at hm
        obtain ⟨y10, ey10, hm⟩ := nmd_ok hm
        refine lv_iinc (v := y10) (lv' := [(4, .int y10), (6, .int r7), (5, .int y4), (0, .ref (ad 0)), (1, .int x1), (2, .int x2), (3, .int x3)]) S.1 S.2.1 dX8_way_136 hl (k := 6) rfl (by rw [ey10]; rfl) (by decide) rfl (fun ls hl => ?_)
        refine lv_goto (tgt := 36) S.1 S.2.1 dX8_way_139 (by decide) ?_
        exact ih M _ _ C x1 x2 x3 y10 ls (lv_sub hl [3, 4, 5, 6, 0] rfl) hm
      · rw [if_pos c9] at hm
        refine lv_iload S.1 S.2.1 dX8_way_88 (lv_at hl 0 rfl) ?_
        refine lv_iconst (v := (-1 : Int32)) S.1 S.2.1 dX8_way_90 (by decide) ?_
        refine lv_icmp_eq (tgt := 116) S.1 S.2.1 dX8_way_91 (by decide) (fun c11 => ?_) (fun c11 => ?_)
        · rw [if_pos c11] at hm
          exact wX8_way_116 S hr hlk kk29 ih M _ _ C x1 x2 x3 x4 y4 ls (lv_sub hl [2, 3, 4, 5, 6, 1] rfl) hm
        · rw [if_neg c11] at hm
          refine lv_aload_n S.1 S.2.1 dX8_way_94 rfl (lv_at hl 2 rfl) ?_
          refine g_get (k := 0) (ci := 7) (f := 3) (v := .ref (ad 4))  S C kiX8_way_X8 kfX8_way_20 rfl (by decide) shR_0 rfl rfl dX8_way_95 ?_
          refine lv_bipush (v := (64 : Int32)) S.1 S.2.1 dX8_way_98 (by decide) ?_
          refine lv_iload_n S.1 S.2.1 dX8_way_100 rfl (lv_at hl 3 rfl) ?_
          refine lv_imul S.1 S.2.1 dX8_way_101 ?_
          refine lv_iload S.1 S.2.1 dX8_way_102 (lv_at hl 0 rfl) ?_
          refine lv_iadd S.1 S.2.1 dX8_way_104 ?_
          obtain ⟨h12, hm⟩ := ck_ok hm
          refine g_iald S C (k := 4) shR_4 h12 dX8_way_105 ?_
          refine lv_aload_n S.1 S.2.1 dX8_way_106 rfl (lv_at hl 2 rfl) ?_
          refine g_get (k := 0) (ci := 7) (f := 3) (v := .ref (ad 4))  S C kiX8_way_X8 kfX8_way_20 rfl (by decide) shR_0 rfl rfl dX8_way_107 ?_
          refine lv_iload S.1 S.2.1 dX8_way_110 (lv_at hl 1 rfl) ?_
          obtain ⟨h13, hm⟩ := ck_ok hm
          refine g_iald S C (k := 4) shR_4 h13 dX8_way_112 ?_
          refine lv_icmp_eq (tgt := 136) S.1 S.2.1 dX8_way_113 (by decide) (fun c14 => ?_) (fun c14 => ?_)
          · rw [if_pos c14] at hm
            obtain ⟨y15, ey15, hm⟩ := nmd_ok hm
            refine lv_iinc (v := y15) (lv' := [(4, .int y15), (6, .int r7), (5, .int y4), (0, .ref (ad 0)), (1, .int x1), (2, .int x2), (3, .int x3)]) S.1 S.2.1 dX8_way_136 hl (k := 6) rfl (by rw [ey15]; rfl) (by decide) rfl (fun ls hl => ?_)
            refine lv_goto (tgt := 36) S.1 S.2.1 dX8_way_139 (by decide) ?_
            exact ih M _ _ C x1 x2 x3 y15 ls (lv_sub hl [3, 4, 5, 6, 0] rfl) hm
          · rw [if_neg c14] at hm
            exact wX8_way_116 S hr hlk kk29 ih M _ _ C x1 x2 x3 x4 y4 ls (lv_sub hl [2, 3, 4, 5, 6, 1] rfl) hm
set_option maxHeartbeats 4000000 in
set_option maxRecDepth 100000 in
theorem wX8_way_29 {p : Program} {l : Launch} {e : Env} {s : State} {m : MethodId} {args : Array Value} {below : List Frame} {meth : Method} {c : Code} {D : va_G} {cy : gCy} {ad : Nat → Nat} {r0 : (Int32 × gMem)} (S : CallFix p m c cX8_way 7 s args wsX8_way RX8) (hr : meth.sig.returnType = (some .int)) (hlk : meth.locks = false) : ∀ (n : Nat), ∀ (M : gMem) (H : Heap) (locs : List Loc), gW shR D cy ad s s.heap M H locs → ∀ (x1 : Int32) (x2 : Int32) (x3 : Int32), ∀ (ls : Array Slot), lv_has ls 7 [(0, .ref (ad 0)), (1, .int x1), (2, .int x2), (3, .int x3)] → mX8_way_29 n M x1 x2 x3 = some r0 → W p l e (gR 2 42) s m args below meth c H locs 0 0 (MQ below (gQi shR D cy ad r0.1 r0.2) args s 0 0 (gA shR ad)) (F0 m 29 ls []) := by
  intro n
  induction n with
  | zero => intro M H locs C x1 x2 x3 ls hl hm; exact absurd hm (by simp [mX8_way_29])
  | succ n ih =>
    intro M H locs C x1 x2 x3 ls hl hm
    rw [mX8_way_29] at hm
    refine lv_iload_n S.1 S.2.1 dX8_way_29 rfl (lv_at hl 3 rfl) ?_
    refine lv_if_lt (tgt := 148) S.1 S.2.1 dX8_way_30 (by decide) (fun c1 => ?_) (fun c1 => ?_)
    · rw [if_pos c1] at hm
      refine lv_iconst (v := (0 : Int32)) S.1 S.2.1 dX8_way_148 (by decide) ?_
      refine lv_istore_n (lv' := [(3, .int (0 : Int32)), (0, .ref (ad 0)), (1, .int x1), (2, .int x2)]) S.1 S.2.1 dX8_way_149 rfl hl (by decide) rfl (fun ls hl => ?_)
      exact wX8_way_150 S hr hlk FU M _ _ C x1 x2 (0 : Int32) ls (lv_sub hl [1, 2, 3, 0] rfl) hm
    · rw [if_neg c1] at hm
      refine lv_iconst (v := (0 : Int32)) S.1 S.2.1 dX8_way_33 (by decide) ?_
      refine lv_istore (lv' := [(4, .int (0 : Int32)), (0, .ref (ad 0)), (1, .int x1), (2, .int x2), (3, .int x3)]) S.1 S.2.1 dX8_way_34 hl (by decide) rfl (fun ls hl => ?_)
      exact wX8_way_36 S hr hlk ih FU M _ _ C x1 x2 x3 (0 : Int32) ls (lv_sub hl [1, 2, 3, 4, 0] rfl) hm
set_option maxHeartbeats 4000000 in
set_option maxRecDepth 100000 in
theorem c_X8_way (l : Launch) (D : va_G) (cy : gCy) (ad : Nat → Nat) (M : gMem) (x1 : Int32) (x2 : Int32) (r0 : (Int32 × gMem)) (hm : mX8_way M x1 x2 = some r0) : Met l yX8_way wsX8_way (gR 2 42) (va_Pc [.ref (ad 0), .int x1, .int x2] (gP shR D cy ad M)) (gQi shR D cy ad r0.1 r0.2) 0 0 (gA shR ad) := by
  refine gEnter (cc := cX8_way) (maxL := 7) (ret := (some .int)) (by decide) rfl (Nat.le_of_ble_eq_true rfl) ?_
  intro p e s m below meth c ls S hr hlk C hl
  have S : CallFix p m c cX8_way 7 s _ wsX8_way RX8 := S
  have hl : lv_has ls 7 [(0, .ref (ad 0)), (1, .int x1), (2, .int x2)] := hl
  rw [mX8_way] at hm
  refine lv_iload_n S.1 S.2.1 dX8_way_0 rfl (lv_at hl 1 rfl) ?_
  obtain ⟨r1, hcr1, hm⟩ := bd_ok hm
  refine gC_i C (gRS (As := [.int x1]) (rest := []) 1 S C (c_X8_isBook l D cy ad M x1 r1 hcr1) gX8_way_X8_isBook rfl (by decide +kernel) (by decide) rfl hl.1 rfl (Nat.le_of_ble_eq_true rfl) dX8_way_1) (fun H locs C => ?_)
  refine lv_if_eq (tgt := 14) S.1 S.2.1 dX8_way_4 (by decide) (fun c2 => ?_) (fun c2 => ?_)
  · rw [if_pos c2] at hm
    refine lv_iconst (v := (-1 : Int32)) S.1 S.2.1 dX8_way_14 (by decide) ?_
    exact gReti S hr hlk C (pr1 hm) (pr2 hm) dX8_way_15
  · rw [if_neg c2] at hm
    refine lv_iload_n S.1 S.2.1 dX8_way_7 rfl (lv_at hl 2 rfl) ?_
    obtain ⟨r3, hcr3, hm⟩ := bd_ok hm
    refine gC_i C (gRS (As := [.int x2]) (rest := []) 1 S C (c_X8_isBook l D cy ad M x2 r3 hcr3) gX8_way_X8_isBook rfl (by decide +kernel) (by decide) rfl hl.1 rfl (Nat.le_of_ble_eq_true rfl) dX8_way_8) (fun H locs C => ?_)
    refine lv_if_ne (tgt := 16) S.1 S.2.1 dX8_way_11 (by decide) (fun c4 => ?_) (fun c4 => ?_)
    · rw [if_neg c4] at hm
      refine lv_aload_n S.1 S.2.1 dX8_way_16 rfl (lv_at hl 0 rfl) ?_
      refine lv_iconst (v := (1 : Int32)) S.1 S.2.1 dX8_way_17 (by decide) ?_
      obtain ⟨M5, eM5, hm⟩ := nmd_ok hm
      refine g_put (M' := (sI M 0 21 (1 : Int32))) (k := 0) (ci := 7) (f := 21) (v := .int (1 : Int32)) (ty := .boolean) S C kiX8_way_X8 tyX8 tyX8_ok nmX8 kfX8_way_202 rfl (by decide) rfl (by decide +kernel) rfl rfl shR_0 rfl (Nat.le_of_ble_eq_true rfl) (by rw [sI_at]; rfl) sI_off dX8_way_18 (fun H locs C => ?_)
      rw [← eM5] at C
      refine lv_aload_n S.1 S.2.1 dX8_way_21 rfl (lv_at hl 0 rfl) ?_
      refine lv_iconst (v := (0 : Int32)) S.1 S.2.1 dX8_way_22 (by decide) ?_
      obtain ⟨M6, eM6, hm⟩ := nmd_ok hm
      refine g_put (M' := (sI M5 0 22 (0 : Int32))) (k := 0) (ci := 7) (f := 22) (v := .int (0 : Int32)) (ty := .int) S C kiX8_way_X8 tyX8 tyX8_ok nmX8 kfX8_way_199 rfl (by decide) rfl (by decide +kernel) rfl rfl shR_0 rfl (Nat.le_of_ble_eq_true rfl) (by rw [sI_at]; rfl) sI_off dX8_way_23 (fun H locs C => ?_)
      rw [← eM6] at C
      refine lv_bipush (v := (32 : Int32)) S.1 S.2.1 dX8_way_26 (by decide) ?_
      refine lv_istore_n (lv' := [(3, .int (32 : Int32)), (0, .ref (ad 0)), (1, .int x1), (2, .int x2)]) S.1 S.2.1 dX8_way_28 rfl hl (by decide) rfl (fun ls hl => ?_)
      exact wX8_way_29 S hr hlk FU M6 _ _ C x1 x2 (32 : Int32) ls (lv_sub hl [1, 2, 3, 0] rfl) hm
    · rw [if_pos c4] at hm
      refine lv_iconst (v := (-1 : Int32)) S.1 S.2.1 dX8_way_14 (by decide) ?_
      exact gReti S hr hlk C (pr1 hm) (pr2 hm) dX8_way_15
def mX8_step_ (M : gMem) (x1 : Int32) (x2 : Int32) : Option Int64 := if (M.1 0 21) = 0 then (some (-1 : Int64)) else ((mX8_lies x1 (0 : Int32) ((M.1 0 22) - (1 : Int32))).bind fun r2 => if r2 = 0 then (some (-1 : Int64)) else (if x2 = (0 : Int32) then (ck (inb x1 128) <| some ((M.1 19 x1.toNatClampNeg).toInt64)) else (if x2 = (1 : Int32) then (ck (inb x1 128) <| some (M.2 20 x1.toNatClampNeg)) else (if x2 = (2 : Int32) then (ck (inb x1 128) <| some ((M.1 21 x1.toNatClampNeg).toInt64)) else (if x2 = (3 : Int32) then (ck (inb x1 128) <| some ((M.1 22 x1.toNatClampNeg).toInt64)) else (some (-1 : Int64)))))))
set_option maxHeartbeats 4000000 in
set_option maxRecDepth 100000 in
theorem c_X8_step_ (l : Launch) (D : va_G) (cy : gCy) (ad : Nat → Nat) (M : gMem) (x1 : Int32) (x2 : Int32) (r0 : Int64) (hm : mX8_step_ M x1 x2 = some r0) : Met l yX8_step_ wsX8_step_ (gR 1 22) (va_Pc [.ref (ad 0), .int x1, .int x2] (gP shR D cy ad M)) (gQl shR D cy ad r0 M) 0 0 (gA shR ad) := by
  refine gEnter (cc := cX8_step_) (maxL := 3) (ret := (some .long)) (by decide) rfl (Nat.le_of_ble_eq_true rfl) ?_
  intro p e s m below meth c ls S hr hlk C hl
  have S : CallFix p m c cX8_step_ 3 s _ wsX8_step_ RX8 := S
  have hl : lv_has ls 3 [(0, .ref (ad 0)), (1, .int x1), (2, .int x2)] := hl
  rw [mX8_step_] at hm
  refine lv_aload_n S.1 S.2.1 dX8_step__0 rfl (lv_at hl 0 rfl) ?_
  refine g_get (k := 0) (ci := 7) (f := 21) (v := .int (M.1 0 21))  S C kiX8_step__X8 kfX8_step__202 rfl (by decide) shR_0 rfl rfl dX8_step__1 ?_
  refine lv_if_eq (tgt := 21) S.1 S.2.1 dX8_step__4 (by decide) (fun c1 => ?_) (fun c1 => ?_)
  · rw [if_pos c1] at hm
    refine lv_ldc2 (v := (-1 : Int64)) S.1 S.2.1 S.2.2.2.1 (S.2.2.2.2 _ kcX8_step__124) dX8_step__21 ?_
    exact gRetl S hr hlk C (Option.some.inj hm) rfl dX8_step__24
  · rw [if_neg c1] at hm
    refine lv_iload_n S.1 S.2.1 dX8_step__7 rfl (lv_at hl 1 rfl) ?_
    refine lv_iconst (v := (0 : Int32)) S.1 S.2.1 dX8_step__8 (by decide) ?_
    refine lv_aload_n S.1 S.2.1 dX8_step__9 rfl (lv_at hl 0 rfl) ?_
    refine g_get (k := 0) (ci := 7) (f := 22) (v := .int (M.1 0 22))  S C kiX8_step__X8 kfX8_step__199 rfl (by decide) shR_0 rfl rfl dX8_step__10 ?_
    refine lv_iconst (v := (1 : Int32)) S.1 S.2.1 dX8_step__13 (by decide) ?_
    refine lv_isub S.1 S.2.1 dX8_step__14 ?_
    obtain ⟨r2, hcr2, hm⟩ := bd_ok hm
    refine gC_i C (gRS (As := [.int x1, .int (0 : Int32), .int ((M.1 0 22) - (1 : Int32))]) (rest := []) 3 S C (c_X8_lies l D cy ad M x1 (0 : Int32) ((M.1 0 22) - (1 : Int32)) r2 hcr2) gX8_step__X8_lies rfl (by decide +kernel) (by decide) rfl hl.1 rfl (Nat.le_of_ble_eq_true rfl) dX8_step__15) (fun H locs C => ?_)
    refine lv_if_ne (tgt := 25) S.1 S.2.1 dX8_step__18 (by decide) (fun c3 => ?_) (fun c3 => ?_)
    · rw [if_neg c3] at hm
      refine lv_iload_n S.1 S.2.1 dX8_step__25 rfl (lv_at hl 2 rfl) ?_
      by_cases c4 : x2 = (0 : Int32)
      · rw [if_pos c4] at hm
        refine lv_tableIn (tgt := 56) S.1 S.2.1 dX8_step__26 (by rw [c4]; decide) (by rw [c4]; decide) (by rw [c4]; rfl) (by decide) ?_
        refine lv_aload_n S.1 S.2.1 dX8_step__56 rfl (lv_at hl 0 rfl) ?_
        refine g_get (k := 0) (ci := 7) (f := 23) (v := .ref (ad 19))  S C kiX8_step__X8 kfX8_step__65 rfl (by decide) shR_0 rfl rfl dX8_step__57 ?_
        refine lv_iload_n S.1 S.2.1 dX8_step__60 rfl (lv_at hl 1 rfl) ?_
        obtain ⟨h5, hm⟩ := ck_ok hm
        refine g_iald S C (k := 19) shR_19 h5 dX8_step__61 ?_
        refine lv_i2l (v := (M.1 19 x1.toNatClampNeg).toInt64) S.1 S.2.1 dX8_step__62 rfl ?_
        exact gRetl S hr hlk C (Option.some.inj hm) rfl dX8_step__63
      · rw [if_neg c4] at hm
        by_cases c6 : x2 = (1 : Int32)
        · rw [if_pos c6] at hm
          refine lv_tableIn (tgt := 64) S.1 S.2.1 dX8_step__26 (by rw [c6]; decide) (by rw [c6]; decide) (by rw [c6]; rfl) (by decide) ?_
          refine lv_aload_n S.1 S.2.1 dX8_step__64 rfl (lv_at hl 0 rfl) ?_
          refine g_get (k := 0) (ci := 7) (f := 24) (v := .ref (ad 20))  S C kiX8_step__X8 kfX8_step__68 rfl (by decide) shR_0 rfl rfl dX8_step__65 ?_
          refine lv_iload_n S.1 S.2.1 dX8_step__68 rfl (lv_at hl 1 rfl) ?_
          obtain ⟨h7, hm⟩ := ck_ok hm
          refine g_lald S C (k := 20) shR_20 h7 dX8_step__69 ?_
          exact gRetl S hr hlk C (Option.some.inj hm) rfl dX8_step__70
        · rw [if_neg c6] at hm
          by_cases c8 : x2 = (2 : Int32)
          · rw [if_pos c8] at hm
            refine lv_tableIn (tgt := 71) S.1 S.2.1 dX8_step__26 (by rw [c8]; decide) (by rw [c8]; decide) (by rw [c8]; rfl) (by decide) ?_
            refine lv_aload_n S.1 S.2.1 dX8_step__71 rfl (lv_at hl 0 rfl) ?_
            refine g_get (k := 0) (ci := 7) (f := 25) (v := .ref (ad 21))  S C kiX8_step__X8 kfX8_step__71 rfl (by decide) shR_0 rfl rfl dX8_step__72 ?_
            refine lv_iload_n S.1 S.2.1 dX8_step__75 rfl (lv_at hl 1 rfl) ?_
            obtain ⟨h9, hm⟩ := ck_ok hm
            refine g_iald S C (k := 21) shR_21 h9 dX8_step__76 ?_
            refine lv_i2l (v := (M.1 21 x1.toNatClampNeg).toInt64) S.1 S.2.1 dX8_step__77 rfl ?_
            exact gRetl S hr hlk C (Option.some.inj hm) rfl dX8_step__78
          · rw [if_neg c8] at hm
            by_cases c10 : x2 = (3 : Int32)
            · rw [if_pos c10] at hm
              refine lv_tableIn (tgt := 79) S.1 S.2.1 dX8_step__26 (by rw [c10]; decide) (by rw [c10]; decide) (by rw [c10]; rfl) (by decide) ?_
              refine lv_aload_n S.1 S.2.1 dX8_step__79 rfl (lv_at hl 0 rfl) ?_
              refine g_get (k := 0) (ci := 7) (f := 26) (v := .ref (ad 22))  S C kiX8_step__X8 kfX8_step__74 rfl (by decide) shR_0 rfl rfl dX8_step__80 ?_
              refine lv_iload_n S.1 S.2.1 dX8_step__83 rfl (lv_at hl 1 rfl) ?_
              obtain ⟨h11, hm⟩ := ck_ok hm
              refine g_iald S C (k := 22) shR_22 h11 dX8_step__84 ?_
              refine lv_i2l (v := (M.1 22 x1.toNatClampNeg).toInt64) S.1 S.2.1 dX8_step__85 rfl ?_
              exact gRetl S hr hlk C (Option.some.inj hm) rfl dX8_step__86
            · rw [if_neg c10] at hm
              refine lv_tableOut (tgt := 87) S.1 S.2.1 dX8_step__26 (tb4 c4 c6 c8 c10) (by decide) ?_
              refine lv_ldc2 (v := (-1 : Int64)) S.1 S.2.1 S.2.2.2.1 (S.2.2.2.2 _ kcX8_step__124) dX8_step__87 ?_
              exact gRetl S hr hlk C (Option.some.inj hm) rfl dX8_step__90
    · rw [if_pos c3] at hm
      refine lv_ldc2 (v := (-1 : Int64)) S.1 S.2.1 S.2.2.2.1 (S.2.2.2.2 _ kcX8_step__124) dX8_step__21 ?_
      exact gRetl S hr hlk C (Option.some.inj hm) rfl dX8_step__24
