theorem kcX1_measure_11 : Cond.constantLong RX1 11 (-1 : Int64) ∈ wsX1_measure := by decide +kernel
theorem kiX1_measure_X1 : ∀ w ∈ wsX10, w ∈ wsX1_measure := by decide +kernel
theorem kfX1_measure_13 : Cond.fieldLink RX1 13 "PrefixLeader$Difference" "start" "J" ∈ wsX1_measure := by decide +kernel
theorem kfX1_measure_19 : Cond.fieldLink RX1 19 "PrefixLeader$Difference" "amount" "J" ∈ wsX1_measure := by decide +kernel
theorem kiX1_measure_X3 : ∀ w ∈ wsX30, w ∈ wsX1_measure := by decide +kernel
theorem kmX1_measure_30l : Cond.methodLink RX1 30 Lib.MathLoose.min_long.x ∈ wsX1_measure := by decide +kernel
theorem kmX1_measure_30s : Cond.static Lib.MathLoose.min_long.x ∈ wsX1_measure := by decide +kernel
theorem kmX1_measure_30i : Cond.initialized "java/lang/Math" ∈ wsX1_measure := by decide +kernel
theorem kmX1_measure_30c : Cond.code Lib.MathLoose.min_long.x Lib.MathLoose.min_long.code 4 (some .long) ∈ wsX1_measure := by decide +kernel
def mX1_measure_174 (k23 : gMem → Nat → Nat → Int64 → Int32 → Int32 → Int32 → Option gMem) (M : gMem) (x1 : Nat) (x2 : Nat) (x3 : Int64) (x6 : Int32) (x7 : Int32) (x11 : Int32) (z0 : Int32) (z1 : Int32) : Option gMem := nmd (z1 + z0) fun y1 => if x11 = 0 then (nmd (x6 + (0 : Int32)) fun y3 => nmd (x7 + (1 : Int32)) fun y4 => k23 M x1 x2 x3 y1 y3 y4) else (nmd (x6 + (1 : Int32)) fun y5 => nmd (x7 + (1 : Int32)) fun y6 => k23 M x1 x2 x3 y1 y5 y6)
def mX1_measure_141 (k23 : gMem → Nat → Nat → Int64 → Int32 → Int32 → Int32 → Option gMem) (M : gMem) (x1 : Nat) (x2 : Nat) (x3 : Int64) (x5 : Int32) (x6 : Int32) (x7 : Int32) (x8 : Int64) (z0 : Int32) : Option gMem := (mX3_last M x2 x6).bind fun r1 => if r1 = x8 then (if z0 = 0 then (mX1_measure_174 k23 M x1 x2 x3 x6 x7 (1 : Int32) (0 : Int32) x5) else (mX1_measure_174 k23 M x1 x2 x3 x6 x7 (1 : Int32) (1 : Int32) x5)) else (if z0 = 0 then (mX1_measure_174 k23 M x1 x2 x3 x6 x7 (0 : Int32) (0 : Int32) x5) else (mX1_measure_174 k23 M x1 x2 x3 x6 x7 (0 : Int32) (1 : Int32) x5))
def mX1_measure_119 (k23 : gMem → Nat → Nat → Int64 → Int32 → Int32 → Int32 → Option gMem) (M : gMem) (x1 : Nat) (x2 : Nat) (x5 : Int32) (x6 : Int32) (x7 : Int32) (x8 : Int64) : Option gMem := nmd (x8 + (1 : Int64)) fun y1 => (mX3_last M x1 x5).bind fun r2 => if r2 = x8 then (mX1_measure_141 k23 M x1 x2 y1 x5 x6 x7 x8 (1 : Int32)) else (mX1_measure_141 k23 M x1 x2 y1 x5 x6 x7 x8 (0 : Int32))
def mX1_measure_101 (k23 : gMem → Nat → Nat → Int64 → Int32 → Int32 → Int32 → Option gMem) (M : gMem) (x1 : Nat) (x2 : Nat) (x3 : Int64) (x5 : Int32) (x6 : Int32) (x7 : Int32) (x8 : Int64) (z0 : Int64) : Option gMem := nmd (sJ M 49 0 z0) fun M1 => nmd (sJ M1 49 1 ((M1.2 49 1) + ((x8 - x3) + (1 : Int64)))) fun M2 => mX1_measure_119 k23 M2 x1 x2 x5 x6 x7 x8
def mX1_measure_23 : Nat → gMem → Nat → Nat → Int64 → Int32 → Int32 → Int32 → Option gMem
  | 0, _, _, _, _, _, _, _ => none
  | n + 1, M, x1, x2, x3, x5, x6, x7 => if (258 : Int32) ≤ x7 then (some M) else (if (M.1 x1 2) ≤ x5 then (some M) else (if (M.1 x2 2) ≤ x6 then (some M) else ((mX3_last M x1 x5).bind fun r4 => (mX3_last M x2 x6).bind fun r5 => nmd (if r5 < r4 then r5 else r4) fun y6 => ck (inb x5 129) <| ck (inb x6 129) <| if (M.1 (x1 + 2) x5.toNatClampNeg) = (M.1 (x2 + 2) x6.toNatClampNeg) then (mX1_measure_119 (mX1_measure_23 n) M x1 x2 x5 x6 x7 y6) else (if (M.2 49 1) = (0 : Int64) then (mX1_measure_101 (mX1_measure_23 n) M x1 x2 x3 x5 x6 x7 y6 x3) else (mX1_measure_101 (mX1_measure_23 n) M x1 x2 x3 x5 x6 x7 y6 (M.2 49 0))))))
def mX1_measure (M : gMem) (x1 : Nat) (x2 : Nat) : Option gMem := nmd (sJ M 49 0 (-1 : Int64)) fun M1 => nmd (sJ M1 49 1 (0 : Int64)) fun M2 => mX1_measure_23 FU M2 x1 x2 (0 : Int64) (0 : Int32) (0 : Int32) (0 : Int32)
set_option maxHeartbeats 4000000 in
set_option maxRecDepth 100000 in
theorem wX1_measure_174 {p : Program} {l : Launch} {e : Env} {s : State} {m : MethodId} {args : Array Value} {below : List Frame} {meth : Method} {c : Code} {D : va_G} {cy : gCy} {ad : Nat → Nat} {r0 : gMem} (S : CallFix p m c cX1_measure 12 s args wsX1_measure RX1) (hr : meth.sig.returnType = none) (hlk : meth.locks = false) {k23 : gMem → Nat → Nat → Int64 → Int32 → Int32 → Int32 → Option gMem} (kk23 : ∀ (M : gMem) (H : Heap) (locs : List Loc), gW shC D cy ad s s.heap M H locs → ∀ (x1 : Nat) (hL1 : isS x1) (x2 : Nat) (hL2 : isS x2) (x3 : Int64) (x5 : Int32) (x6 : Int32) (x7 : Int32), ∀ (ls : Array Slot), lv_has ls 12 [(0, .ref (ad 49)), (1, .ref (ad x1)), (2, .ref (ad x2)), (3, .long x3), (5, .int x5), (6, .int x6), (7, .int x7)] → k23 M x1 x2 x3 x5 x6 x7 = some r0 → W p l e (gR 1 23) s m args below meth c H locs 0 0 (MQ below (gQv shC D cy ad r0) args s 0 0 (gA shC ad)) (F0 m 23 ls [])) : ∀ (M : gMem) (H : Heap) (locs : List Loc), gW shC D cy ad s s.heap M H locs → ∀ (x1 : Nat) (hL1 : isS x1) (x2 : Nat) (hL2 : isS x2) (x3 : Int64) (x6 : Int32) (x7 : Int32) (x11 : Int32) (z0 : Int32) (z1 : Int32), ∀ (ls : Array Slot), lv_has ls 12 [(0, .ref (ad 49)), (1, .ref (ad x1)), (2, .ref (ad x2)), (3, .long x3), (6, .int x6), (7, .int x7), (11, .int x11)] → mX1_measure_174 k23 M x1 x2 x3 x6 x7 x11 z0 z1 = some r0 → W p l e (gR 1 23) s m args below meth c H locs 0 0 (MQ below (gQv shC D cy ad r0) args s 0 0 (gA shC ad)) (F0 m 174 ls [.int z0, .int z1]) := by
  intro M H locs C x1 hL1 x2 hL2 x3 x6 x7 x11 z0 z1 ls hl hm
  rw [mX1_measure_174] at hm
  refine lv_iadd S.1 S.2.1 dX1_measure_174 ?_
  obtain ⟨y1, ey1, hm⟩ := nmd_ok hm
  refine gNmI ey1 ?_
  refine lv_istore (lv' := [(5, .int y1), (0, .ref (ad 49)), (1, .ref (ad x1)), (2, .ref (ad x2)), (3, .long x3), (6, .int x6), (7, .int x7), (11, .int x11)]) S.1 S.2.1 dX1_measure_175 hl (by decide) rfl (fun ls hl => ?_)
  refine lv_iload S.1 S.2.1 dX1_measure_177 (lv_at hl 5 rfl) ?_
  refine lv_iload S.1 S.2.1 dX1_measure_179 (lv_at hl 7 rfl) ?_
  refine lv_if_eq (tgt := 188) S.1 S.2.1 dX1_measure_181 (by decide) (fun c2 => ?_) (fun c2 => ?_)
  · rw [if_pos c2] at hm
    refine lv_iconst (v := (0 : Int32)) S.1 S.2.1 dX1_measure_188 (by decide) ?_
    refine lv_iadd S.1 S.2.1 dX1_measure_189 ?_
    obtain ⟨y3, ey3, hm⟩ := nmd_ok hm
    refine gNmI ey3 ?_
    refine lv_istore (lv' := [(6, .int y3), (5, .int y1), (0, .ref (ad 49)), (1, .ref (ad x1)), (2, .ref (ad x2)), (3, .long x3), (7, .int x7), (11, .int x11)]) S.1 S.2.1 dX1_measure_190 hl (by decide) rfl (fun ls hl => ?_)
    obtain ⟨y4, ey4, hm⟩ := nmd_ok hm
    refine lv_iinc (v := y4) (lv' := [(7, .int y4), (6, .int y3), (5, .int y1), (0, .ref (ad 49)), (1, .ref (ad x1)), (2, .ref (ad x2)), (3, .long x3), (11, .int x11)]) S.1 S.2.1 dX1_measure_192 hl (k := 6) rfl (by rw [ey4]; rfl) (by decide) rfl (fun ls hl => ?_)
    refine lv_goto (tgt := 23) S.1 S.2.1 dX1_measure_195 (by decide) ?_
    exact kk23 M _ _ C x1 hL1 x2 hL2 x3 y1 y3 y4 ls (lv_sub hl [3, 4, 5, 6, 2, 1, 0] rfl) hm
  · rw [if_neg c2] at hm
    refine lv_iconst (v := (1 : Int32)) S.1 S.2.1 dX1_measure_184 (by decide) ?_
    refine lv_goto (tgt := 189) S.1 S.2.1 dX1_measure_185 (by decide) ?_
    refine lv_iadd S.1 S.2.1 dX1_measure_189 ?_
    obtain ⟨y5, ey5, hm⟩ := nmd_ok hm
    refine gNmI ey5 ?_
    refine lv_istore (lv' := [(6, .int y5), (5, .int y1), (0, .ref (ad 49)), (1, .ref (ad x1)), (2, .ref (ad x2)), (3, .long x3), (7, .int x7), (11, .int x11)]) S.1 S.2.1 dX1_measure_190 hl (by decide) rfl (fun ls hl => ?_)
    obtain ⟨y6, ey6, hm⟩ := nmd_ok hm
    refine lv_iinc (v := y6) (lv' := [(7, .int y6), (6, .int y5), (5, .int y1), (0, .ref (ad 49)), (1, .ref (ad x1)), (2, .ref (ad x2)), (3, .long x3), (11, .int x11)]) S.1 S.2.1 dX1_measure_192 hl (k := 6) rfl (by rw [ey6]; rfl) (by decide) rfl (fun ls hl => ?_)
    refine lv_goto (tgt := 23) S.1 S.2.1 dX1_measure_195 (by decide) ?_
    exact kk23 M _ _ C x1 hL1 x2 hL2 x3 y1 y5 y6 ls (lv_sub hl [3, 4, 5, 6, 2, 1, 0] rfl) hm
set_option maxHeartbeats 4000000 in
set_option maxRecDepth 100000 in
theorem wX1_measure_141 {p : Program} {l : Launch} {e : Env} {s : State} {m : MethodId} {args : Array Value} {below : List Frame} {meth : Method} {c : Code} {D : va_G} {cy : gCy} {ad : Nat → Nat} {r0 : gMem} (S : CallFix p m c cX1_measure 12 s args wsX1_measure RX1) (hr : meth.sig.returnType = none) (hlk : meth.locks = false) {k23 : gMem → Nat → Nat → Int64 → Int32 → Int32 → Int32 → Option gMem} (kk23 : ∀ (M : gMem) (H : Heap) (locs : List Loc), gW shC D cy ad s s.heap M H locs → ∀ (x1 : Nat) (hL1 : isS x1) (x2 : Nat) (hL2 : isS x2) (x3 : Int64) (x5 : Int32) (x6 : Int32) (x7 : Int32), ∀ (ls : Array Slot), lv_has ls 12 [(0, .ref (ad 49)), (1, .ref (ad x1)), (2, .ref (ad x2)), (3, .long x3), (5, .int x5), (6, .int x6), (7, .int x7)] → k23 M x1 x2 x3 x5 x6 x7 = some r0 → W p l e (gR 1 23) s m args below meth c H locs 0 0 (MQ below (gQv shC D cy ad r0) args s 0 0 (gA shC ad)) (F0 m 23 ls [])) : ∀ (M : gMem) (H : Heap) (locs : List Loc), gW shC D cy ad s s.heap M H locs → ∀ (x1 : Nat) (hL1 : isS x1) (x2 : Nat) (hL2 : isS x2) (x3 : Int64) (x5 : Int32) (x6 : Int32) (x7 : Int32) (x8 : Int64) (z0 : Int32), ∀ (ls : Array Slot), lv_has ls 12 [(0, .ref (ad 49)), (1, .ref (ad x1)), (2, .ref (ad x2)), (3, .long x3), (5, .int x5), (6, .int x6), (7, .int x7), (8, .long x8)] → mX1_measure_141 k23 M x1 x2 x3 x5 x6 x7 x8 z0 = some r0 → W p l e (gR 1 23) s m args below meth c H locs 0 0 (MQ below (gQv shC D cy ad r0) args s 0 0 (gA shC ad)) (F0 m 141 ls [.int z0]) := by
  intro M H locs C x1 hL1 x2 hL2 x3 x5 x6 x7 x8 z0 ls hl hm
  rw [mX1_measure_141] at hm
  refine lv_istore (lv' := [(10, .int z0), (0, .ref (ad 49)), (1, .ref (ad x1)), (2, .ref (ad x2)), (3, .long x3), (5, .int x5), (6, .int x6), (7, .int x7), (8, .long x8)]) S.1 S.2.1 dX1_measure_141 hl (by decide) rfl (fun ls hl => ?_)
  refine lv_aload_n S.1 S.2.1 dX1_measure_143 rfl (lv_at hl 3 rfl) ?_
  refine lv_iload S.1 S.2.1 dX1_measure_144 (lv_at hl 6 rfl) ?_
  obtain ⟨r1, hcr1, hm⟩ := bd_ok hm
  refine gC_l C (gRV (k := x2) (ci := 3) (r := (RX3, TX3, 6)) (As := [.int x6]) (rest := []) 1 S C (c_X3_last l D cy ad M x2 hL2 x6 r1 hcr1) gX1_measure_X3_last rfl (by decide +kernel) (by decide) hL2.1 rfl rfl rfl hl.1 rfl (Nat.le_of_ble_eq_true rfl) dX1_measure_146) (fun H locs C => ?_)
  refine lv_lload S.1 S.2.1 dX1_measure_149 (lv_at hl 8 rfl) ?_
  refine W.lcmp S.1 S.2.1 dX1_measure_151 ?_
  refine lv_if_ne (tgt := 159) S.1 S.2.1 dX1_measure_152 (by decide) (fun c2 => ?_) (fun c2 => ?_)
  · rw [if_neg (fun q => c2 (cmp_eq.mpr q))] at hm
    refine lv_iconst (v := (0 : Int32)) S.1 S.2.1 dX1_measure_159 (by decide) ?_
    refine lv_istore (lv' := [(11, .int (0 : Int32)), (10, .int z0), (0, .ref (ad 49)), (1, .ref (ad x1)), (2, .ref (ad x2)), (3, .long x3), (5, .int x5), (6, .int x6), (7, .int x7), (8, .long x8)]) S.1 S.2.1 dX1_measure_160 hl (by decide) rfl (fun ls hl => ?_)
    refine lv_iload S.1 S.2.1 dX1_measure_162 (lv_at hl 6 rfl) ?_
    refine lv_iload S.1 S.2.1 dX1_measure_164 (lv_at hl 1 rfl) ?_
    refine lv_if_eq (tgt := 173) S.1 S.2.1 dX1_measure_166 (by decide) (fun c3 => ?_) (fun c3 => ?_)
    · rw [if_pos c3] at hm
      refine lv_iconst (v := (0 : Int32)) S.1 S.2.1 dX1_measure_173 (by decide) ?_
      exact wX1_measure_174 S hr hlk kk23 M _ _ C x1 hL1 x2 hL2 x3 x6 x7 (0 : Int32) (0 : Int32) x5 ls (lv_sub hl [2, 3, 4, 5, 7, 8, 0] rfl) hm
    · rw [if_neg c3] at hm
      refine lv_iconst (v := (1 : Int32)) S.1 S.2.1 dX1_measure_169 (by decide) ?_
      refine lv_goto (tgt := 174) S.1 S.2.1 dX1_measure_170 (by decide) ?_
      exact wX1_measure_174 S hr hlk kk23 M _ _ C x1 hL1 x2 hL2 x3 x6 x7 (0 : Int32) (1 : Int32) x5 ls (lv_sub hl [2, 3, 4, 5, 7, 8, 0] rfl) hm
  · rw [if_pos (cmp_eq.mp c2)] at hm
    refine lv_iconst (v := (1 : Int32)) S.1 S.2.1 dX1_measure_155 (by decide) ?_
    refine lv_goto (tgt := 160) S.1 S.2.1 dX1_measure_156 (by decide) ?_
    refine lv_istore (lv' := [(11, .int (1 : Int32)), (10, .int z0), (0, .ref (ad 49)), (1, .ref (ad x1)), (2, .ref (ad x2)), (3, .long x3), (5, .int x5), (6, .int x6), (7, .int x7), (8, .long x8)]) S.1 S.2.1 dX1_measure_160 hl (by decide) rfl (fun ls hl => ?_)
    refine lv_iload S.1 S.2.1 dX1_measure_162 (lv_at hl 6 rfl) ?_
    refine lv_iload S.1 S.2.1 dX1_measure_164 (lv_at hl 1 rfl) ?_
    refine lv_if_eq (tgt := 173) S.1 S.2.1 dX1_measure_166 (by decide) (fun c4 => ?_) (fun c4 => ?_)
    · rw [if_pos c4] at hm
      refine lv_iconst (v := (0 : Int32)) S.1 S.2.1 dX1_measure_173 (by decide) ?_
      exact wX1_measure_174 S hr hlk kk23 M _ _ C x1 hL1 x2 hL2 x3 x6 x7 (1 : Int32) (0 : Int32) x5 ls (lv_sub hl [2, 3, 4, 5, 7, 8, 0] rfl) hm
    · rw [if_neg c4] at hm
      refine lv_iconst (v := (1 : Int32)) S.1 S.2.1 dX1_measure_169 (by decide) ?_
      refine lv_goto (tgt := 174) S.1 S.2.1 dX1_measure_170 (by decide) ?_
      exact wX1_measure_174 S hr hlk kk23 M _ _ C x1 hL1 x2 hL2 x3 x6 x7 (1 : Int32) (1 : Int32) x5 ls (lv_sub hl [2, 3, 4, 5, 7, 8, 0] rfl) hm
set_option maxHeartbeats 4000000 in
set_option maxRecDepth 100000 in
theorem wX1_measure_119 {p : Program} {l : Launch} {e : Env} {s : State} {m : MethodId} {args : Array Value} {below : List Frame} {meth : Method} {c : Code} {D : va_G} {cy : gCy} {ad : Nat → Nat} {r0 : gMem} (S : CallFix p m c cX1_measure 12 s args wsX1_measure RX1) (hr : meth.sig.returnType = none) (hlk : meth.locks = false) {k23 : gMem → Nat → Nat → Int64 → Int32 → Int32 → Int32 → Option gMem} (kk23 : ∀ (M : gMem) (H : Heap) (locs : List Loc), gW shC D cy ad s s.heap M H locs → ∀ (x1 : Nat) (hL1 : isS x1) (x2 : Nat) (hL2 : isS x2) (x3 : Int64) (x5 : Int32) (x6 : Int32) (x7 : Int32), ∀ (ls : Array Slot), lv_has ls 12 [(0, .ref (ad 49)), (1, .ref (ad x1)), (2, .ref (ad x2)), (3, .long x3), (5, .int x5), (6, .int x6), (7, .int x7)] → k23 M x1 x2 x3 x5 x6 x7 = some r0 → W p l e (gR 1 23) s m args below meth c H locs 0 0 (MQ below (gQv shC D cy ad r0) args s 0 0 (gA shC ad)) (F0 m 23 ls [])) : ∀ (M : gMem) (H : Heap) (locs : List Loc), gW shC D cy ad s s.heap M H locs → ∀ (x1 : Nat) (hL1 : isS x1) (x2 : Nat) (hL2 : isS x2) (x5 : Int32) (x6 : Int32) (x7 : Int32) (x8 : Int64), ∀ (ls : Array Slot), lv_has ls 12 [(0, .ref (ad 49)), (1, .ref (ad x1)), (2, .ref (ad x2)), (5, .int x5), (6, .int x6), (7, .int x7), (8, .long x8)] → mX1_measure_119 k23 M x1 x2 x5 x6 x7 x8 = some r0 → W p l e (gR 1 23) s m args below meth c H locs 0 0 (MQ below (gQv shC D cy ad r0) args s 0 0 (gA shC ad)) (F0 m 119 ls []) := by
  intro M H locs C x1 hL1 x2 hL2 x5 x6 x7 x8 ls hl hm
  rw [mX1_measure_119] at hm
  refine lv_lload S.1 S.2.1 dX1_measure_119 (lv_at hl 6 rfl) ?_
  refine lv_lconst (v := (1 : Int64)) S.1 S.2.1 dX1_measure_121 (by decide) ?_
  refine lv_ladd S.1 S.2.1 dX1_measure_122 ?_
  obtain ⟨y1, ey1, hm⟩ := nmd_ok hm
  refine gNmJ ey1 ?_
  refine lv_lstore_n (lv' := [(3, .long y1), (0, .ref (ad 49)), (1, .ref (ad x1)), (2, .ref (ad x2)), (5, .int x5), (6, .int x6), (7, .int x7), (8, .long x8)]) S.1 S.2.1 dX1_measure_123 rfl hl (by decide) rfl (fun ls hl => ?_)
  refine lv_aload_n S.1 S.2.1 dX1_measure_124 rfl (lv_at hl 2 rfl) ?_
  refine lv_iload S.1 S.2.1 dX1_measure_125 (lv_at hl 4 rfl) ?_
  obtain ⟨r2, hcr2, hm⟩ := bd_ok hm
  refine gC_l C (gRV (k := x1) (ci := 3) (r := (RX3, TX3, 6)) (As := [.int x5]) (rest := []) 1 S C (c_X3_last l D cy ad M x1 hL1 x5 r2 hcr2) gX1_measure_X3_last rfl (by decide +kernel) (by decide) hL1.1 rfl rfl rfl hl.1 rfl (Nat.le_of_ble_eq_true rfl) dX1_measure_127) (fun H locs C => ?_)
  refine lv_lload S.1 S.2.1 dX1_measure_130 (lv_at hl 7 rfl) ?_
  refine W.lcmp S.1 S.2.1 dX1_measure_132 ?_
  refine lv_if_ne (tgt := 140) S.1 S.2.1 dX1_measure_133 (by decide) (fun c3 => ?_) (fun c3 => ?_)
  · rw [if_neg (fun q => c3 (cmp_eq.mpr q))] at hm
    refine lv_iconst (v := (0 : Int32)) S.1 S.2.1 dX1_measure_140 (by decide) ?_
    exact wX1_measure_141 S hr hlk kk23 M _ _ C x1 hL1 x2 hL2 y1 x5 x6 x7 x8 (0 : Int32) ls (lv_sub hl [1, 2, 3, 0, 4, 5, 6, 7] rfl) hm
  · rw [if_pos (cmp_eq.mp c3)] at hm
    refine lv_iconst (v := (1 : Int32)) S.1 S.2.1 dX1_measure_136 (by decide) ?_
    refine lv_goto (tgt := 141) S.1 S.2.1 dX1_measure_137 (by decide) ?_
    exact wX1_measure_141 S hr hlk kk23 M _ _ C x1 hL1 x2 hL2 y1 x5 x6 x7 x8 (1 : Int32) ls (lv_sub hl [1, 2, 3, 0, 4, 5, 6, 7] rfl) hm
set_option maxHeartbeats 4000000 in
set_option maxRecDepth 100000 in
theorem wX1_measure_101 {p : Program} {l : Launch} {e : Env} {s : State} {m : MethodId} {args : Array Value} {below : List Frame} {meth : Method} {c : Code} {D : va_G} {cy : gCy} {ad : Nat → Nat} {r0 : gMem} (S : CallFix p m c cX1_measure 12 s args wsX1_measure RX1) (hr : meth.sig.returnType = none) (hlk : meth.locks = false) {k23 : gMem → Nat → Nat → Int64 → Int32 → Int32 → Int32 → Option gMem} (kk23 : ∀ (M : gMem) (H : Heap) (locs : List Loc), gW shC D cy ad s s.heap M H locs → ∀ (x1 : Nat) (hL1 : isS x1) (x2 : Nat) (hL2 : isS x2) (x3 : Int64) (x5 : Int32) (x6 : Int32) (x7 : Int32), ∀ (ls : Array Slot), lv_has ls 12 [(0, .ref (ad 49)), (1, .ref (ad x1)), (2, .ref (ad x2)), (3, .long x3), (5, .int x5), (6, .int x6), (7, .int x7)] → k23 M x1 x2 x3 x5 x6 x7 = some r0 → W p l e (gR 1 23) s m args below meth c H locs 0 0 (MQ below (gQv shC D cy ad r0) args s 0 0 (gA shC ad)) (F0 m 23 ls [])) : ∀ (M : gMem) (H : Heap) (locs : List Loc), gW shC D cy ad s s.heap M H locs → ∀ (x1 : Nat) (hL1 : isS x1) (x2 : Nat) (hL2 : isS x2) (x3 : Int64) (x5 : Int32) (x6 : Int32) (x7 : Int32) (x8 : Int64) (z0 : Int64), ∀ (ls : Array Slot), lv_has ls 12 [(0, .ref (ad 49)), (1, .ref (ad x1)), (2, .ref (ad x2)), (3, .long x3), (5, .int x5), (6, .int x6), (7, .int x7), (8, .long x8)] → mX1_measure_101 k23 M x1 x2 x3 x5 x6 x7 x8 z0 = some r0 → W p l e (gR 1 23) s m args below meth c H locs 0 0 (MQ below (gQv shC D cy ad r0) args s 0 0 (gA shC ad)) (F0 m 101 ls [.long z0, .ref (ad 49)]) := by
  intro M H locs C x1 hL1 x2 hL2 x3 x5 x6 x7 x8 z0 ls hl hm
  rw [mX1_measure_101] at hm
  obtain ⟨M1, eM1, hm⟩ := nmd_ok hm
  refine g_put (M' := (sJ M 49 0 z0)) (k := 49) (ci := 1) (f := 0) (v := .long z0) (ty := .long) S C kiX1_measure_X1 tyX1 tyX1_ok nmX1 kfX1_measure_13 rfl (by decide) rfl (by decide +kernel) rfl rfl shC_49 rfl (Nat.le_of_ble_eq_true rfl) (by rw [sJ_at]; rfl) sJ_off dX1_measure_101 (fun H locs C => ?_)
  rw [← eM1] at C
  refine lv_aload_n S.1 S.2.1 dX1_measure_104 rfl (lv_at hl 0 rfl) ?_
  refine lv_dup S.1 S.2.1 dX1_measure_105 rfl ?_
  refine g_get (k := 49) (ci := 1) (f := 1) (v := .long (M1.2 49 1))  S C kiX1_measure_X1 kfX1_measure_19 rfl (by decide) shC_49 rfl rfl dX1_measure_106 ?_
  refine lv_lload S.1 S.2.1 dX1_measure_109 (lv_at hl 7 rfl) ?_
  refine lv_lload_n S.1 S.2.1 dX1_measure_111 rfl (lv_at hl 3 rfl) ?_
  refine lv_lsub S.1 S.2.1 dX1_measure_112 ?_
  refine lv_lconst (v := (1 : Int64)) S.1 S.2.1 dX1_measure_113 (by decide) ?_
  refine lv_ladd S.1 S.2.1 dX1_measure_114 ?_
  refine lv_ladd S.1 S.2.1 dX1_measure_115 ?_
  obtain ⟨M2, eM2, hm⟩ := nmd_ok hm
  refine g_put (M' := (sJ M1 49 1 ((M1.2 49 1) + ((x8 - x3) + (1 : Int64))))) (k := 49) (ci := 1) (f := 1) (v := .long ((M1.2 49 1) + ((x8 - x3) + (1 : Int64)))) (ty := .long) S C kiX1_measure_X1 tyX1 tyX1_ok nmX1 kfX1_measure_19 rfl (by decide) rfl (by decide +kernel) rfl rfl shC_49 rfl (Nat.le_of_ble_eq_true rfl) (by rw [sJ_at]; rfl) sJ_off dX1_measure_116 (fun H locs C => ?_)
  rw [← eM2] at C
  exact wX1_measure_119 S hr hlk kk23 M2 _ _ C x1 hL1 x2 hL2 x5 x6 x7 x8 ls (lv_sub hl [0, 1, 2, 4, 5, 6, 7] rfl) hm
set_option maxHeartbeats 4000000 in
set_option maxRecDepth 100000 in
theorem wX1_measure_23 {p : Program} {l : Launch} {e : Env} {s : State} {m : MethodId} {args : Array Value} {below : List Frame} {meth : Method} {c : Code} {D : va_G} {cy : gCy} {ad : Nat → Nat} {r0 : gMem} (S : CallFix p m c cX1_measure 12 s args wsX1_measure RX1) (hr : meth.sig.returnType = none) (hlk : meth.locks = false) : ∀ (n : Nat), ∀ (M : gMem) (H : Heap) (locs : List Loc), gW shC D cy ad s s.heap M H locs → ∀ (x1 : Nat) (hL1 : isS x1) (x2 : Nat) (hL2 : isS x2) (x3 : Int64) (x5 : Int32) (x6 : Int32) (x7 : Int32), ∀ (ls : Array Slot), lv_has ls 12 [(0, .ref (ad 49)), (1, .ref (ad x1)), (2, .ref (ad x2)), (3, .long x3), (5, .int x5), (6, .int x6), (7, .int x7)] → mX1_measure_23 n M x1 x2 x3 x5 x6 x7 = some r0 → W p l e (gR 1 23) s m args below meth c H locs 0 0 (MQ below (gQv shC D cy ad r0) args s 0 0 (gA shC ad)) (F0 m 23 ls []) := by
  intro n
  induction n with
  | zero => intro M H locs C x1 hL1 x2 hL2 x3 x5 x6 x7 ls hl hm; exact absurd hm (by simp [mX1_measure_23])
  | succ n ih =>
    intro M H locs C x1 hL1 x2 hL2 x3 x5 x6 x7 ls hl hm
    rw [mX1_measure_23] at hm
    refine lv_iload S.1 S.2.1 dX1_measure_23 (lv_at hl 6 rfl) ?_
    refine lv_sipush (v := (258 : Int32)) S.1 S.2.1 dX1_measure_25 (by decide) ?_
    refine lv_icmp_ge (tgt := 198) S.1 S.2.1 dX1_measure_28 (by decide) (fun c1 => ?_) (fun c1 => ?_)
    · rw [if_pos c1] at hm
      exact gRetv S hr hlk C (Option.some.inj hm) dX1_measure_198
    · rw [if_neg c1] at hm
      refine lv_iload S.1 S.2.1 dX1_measure_31 (lv_at hl 4 rfl) ?_
      refine lv_aload_n S.1 S.2.1 dX1_measure_33 rfl (lv_at hl 1 rfl) ?_
      refine g_getN (k := x1) (ci := 3) (f := 2) (v := .int (M.1 x1 2)) (host := "PrefixLeader") S C kiX1_measure_X3 (by decide +kernel) rfl (by decide) hL1.1 rfl rfl dX1_measure_34 ?_
      refine lv_icmp_ge (tgt := 198) S.1 S.2.1 dX1_measure_37 (by decide) (fun c2 => ?_) (fun c2 => ?_)
      · rw [if_pos c2] at hm
        exact gRetv S hr hlk C (Option.some.inj hm) dX1_measure_198
      · rw [if_neg c2] at hm
        refine lv_iload S.1 S.2.1 dX1_measure_40 (lv_at hl 5 rfl) ?_
        refine lv_aload_n S.1 S.2.1 dX1_measure_42 rfl (lv_at hl 2 rfl) ?_
        refine g_getN (k := x2) (ci := 3) (f := 2) (v := .int (M.1 x2 2)) (host := "PrefixLeader") S C kiX1_measure_X3 (by decide +kernel) rfl (by decide) hL2.1 rfl rfl dX1_measure_43 ?_
        refine lv_icmp_ge (tgt := 198) S.1 S.2.1 dX1_measure_46 (by decide) (fun c3 => ?_) (fun c3 => ?_)
        · rw [if_pos c3] at hm
          exact gRetv S hr hlk C (Option.some.inj hm) dX1_measure_198
        · rw [if_neg c3] at hm
          refine lv_aload_n S.1 S.2.1 dX1_measure_49 rfl (lv_at hl 1 rfl) ?_
          refine lv_iload S.1 S.2.1 dX1_measure_50 (lv_at hl 4 rfl) ?_
          obtain ⟨r4, hcr4, hm⟩ := bd_ok hm
          refine gC_l C (gRV (k := x1) (ci := 3) (r := (RX3, TX3, 6)) (As := [.int x5]) (rest := []) 1 S C (c_X3_last l D cy ad M x1 hL1 x5 r4 hcr4) gX1_measure_X3_last rfl (by decide +kernel) (by decide) hL1.1 rfl rfl rfl hl.1 rfl (Nat.le_of_ble_eq_true rfl) dX1_measure_52) (fun H locs C => ?_)
          refine lv_aload_n S.1 S.2.1 dX1_measure_55 rfl (lv_at hl 2 rfl) ?_
          refine lv_iload S.1 S.2.1 dX1_measure_56 (lv_at hl 5 rfl) ?_
          obtain ⟨r5, hcr5, hm⟩ := bd_ok hm
          refine gC_l C (gRV (k := x2) (ci := 3) (r := (RX3, TX3, 6)) (As := [.int x6]) (rest := [.long r4]) 1 S C (c_X3_last l D cy ad M x2 hL2 x6 r5 hcr5) gX1_measure_X3_last rfl (by decide +kernel) (by decide) hL2.1 rfl rfl rfl hl.1 rfl (Nat.le_of_ble_eq_true rfl) dX1_measure_58) (fun H locs C => ?_)
          refine va_mmin_long S.1 S.2.1 (S.2.2.1.trans hl.1.symm) S.2.2.2.1 (S.2.2.2.2 _ kmX1_measure_30l) (S.2.2.2.2 _ kmX1_measure_30s) (S.2.2.2.2 _ kmX1_measure_30i) (S.2.2.2.2 _ kmX1_measure_30c) (rest := []) (Nat.le_of_ble_eq_true rfl) (Nat.le_of_ble_eq_true rfl) (Nat.le_refl _) (Nat.le_refl _) dX1_measure_61 ?_
          obtain ⟨y6, ey6, hm⟩ := nmd_ok hm
          refine gNmJ ey6 ?_
          refine lv_lstore (lv' := [(8, .long y6), (0, .ref (ad 49)), (1, .ref (ad x1)), (2, .ref (ad x2)), (3, .long x3), (5, .int x5), (6, .int x6), (7, .int x7)]) S.1 S.2.1 dX1_measure_64 hl (by decide) rfl (fun ls hl => ?_)
          refine lv_aload_n S.1 S.2.1 dX1_measure_66 rfl (lv_at hl 2 rfl) ?_
          refine g_getN (k := x1) (ci := 3) (f := 1) (v := .ref (ad (x1 + 2))) (host := "PrefixLeader") S C kiX1_measure_X3 (by decide +kernel) rfl (by decide) hL1.1 rfl rfl dX1_measure_67 ?_
          refine lv_iload S.1 S.2.1 dX1_measure_70 (lv_at hl 5 rfl) ?_
          obtain ⟨h7, hm⟩ := ck_ok hm
          refine g_iald S C (k := (x1 + 2)) (hL1).2.2.1 h7 dX1_measure_72 ?_
          refine lv_aload_n S.1 S.2.1 dX1_measure_73 rfl (lv_at hl 3 rfl) ?_
          refine g_getN (k := x2) (ci := 3) (f := 1) (v := .ref (ad (x2 + 2))) (host := "PrefixLeader") S C kiX1_measure_X3 (by decide +kernel) rfl (by decide) hL2.1 rfl rfl dX1_measure_74 ?_
          refine lv_iload S.1 S.2.1 dX1_measure_77 (lv_at hl 6 rfl) ?_
          obtain ⟨h8, hm⟩ := ck_ok hm
          refine g_iald S C (k := (x2 + 2)) (hL2).2.2.1 h8 dX1_measure_79 ?_
          refine lv_icmp_eq (tgt := 119) S.1 S.2.1 dX1_measure_80 (by decide) (fun c9 => ?_) (fun c9 => ?_)
          · rw [if_pos c9] at hm
            exact wX1_measure_119 S hr hlk ih M _ _ C x1 hL1 x2 hL2 x5 x6 x7 y6 ls (lv_sub hl [1, 2, 3, 5, 6, 7, 0] rfl) hm
          · rw [if_neg c9] at hm
            refine lv_aload_n S.1 S.2.1 dX1_measure_83 rfl (lv_at hl 1 rfl) ?_
            refine lv_aload_n S.1 S.2.1 dX1_measure_84 rfl (lv_at hl 1 rfl) ?_
            refine g_get (k := 49) (ci := 1) (f := 1) (v := .long (M.2 49 1))  S C kiX1_measure_X1 kfX1_measure_19 rfl (by decide) shC_49 rfl rfl dX1_measure_85 ?_
            refine lv_lconst (v := (0 : Int64)) S.1 S.2.1 dX1_measure_88 (by decide) ?_
            refine W.lcmp S.1 S.2.1 dX1_measure_89 ?_
            refine lv_if_ne (tgt := 97) S.1 S.2.1 dX1_measure_90 (by decide) (fun c10 => ?_) (fun c10 => ?_)
            · rw [if_neg (fun q => c10 (cmp_eq.mpr q))] at hm
              refine lv_aload_n S.1 S.2.1 dX1_measure_97 rfl (lv_at hl 1 rfl) ?_
              refine g_get (k := 49) (ci := 1) (f := 0) (v := .long (M.2 49 0))  S C kiX1_measure_X1 kfX1_measure_13 rfl (by decide) shC_49 rfl rfl dX1_measure_98 ?_
              exact wX1_measure_101 S hr hlk ih M _ _ C x1 hL1 x2 hL2 x3 x5 x6 x7 y6 (M.2 49 0) ls (lv_sub hl [1, 2, 3, 4, 5, 6, 7, 0] rfl) hm
            · rw [if_pos (cmp_eq.mp c10)] at hm
              refine lv_lload_n S.1 S.2.1 dX1_measure_93 rfl (lv_at hl 4 rfl) ?_
              refine lv_goto (tgt := 101) S.1 S.2.1 dX1_measure_94 (by decide) ?_
              exact wX1_measure_101 S hr hlk ih M _ _ C x1 hL1 x2 hL2 x3 x5 x6 x7 y6 x3 ls (lv_sub hl [1, 2, 3, 4, 5, 6, 7, 0] rfl) hm
set_option maxHeartbeats 4000000 in
set_option maxRecDepth 100000 in
theorem c_X1_measure (l : Launch) (D : va_G) (cy : gCy) (ad : Nat → Nat) (M : gMem) (x1 : Nat) (hL1 : isS x1) (x2 : Nat) (hL2 : isS x2) (r0 : gMem) (hm : mX1_measure M x1 x2 = some r0) : Met l yX1_measure wsX1_measure (gR 1 23) (va_Pc [.ref (ad 49), .ref (ad x1), .ref (ad x2)] (gP shC D cy ad M)) (gQv shC D cy ad r0) 0 0 (gA shC ad) := by
  refine gEnter (cc := cX1_measure) (maxL := 12) (ret := none) (by decide) rfl (Nat.le_of_ble_eq_true rfl) ?_
  intro p e s m below meth c ls S hr hlk C hl
  have S : CallFix p m c cX1_measure 12 s _ wsX1_measure RX1 := S
  have hl : lv_has ls 12 [(0, .ref (ad 49)), (1, .ref (ad x1)), (2, .ref (ad x2))] := hl
  rw [mX1_measure] at hm
  refine lv_aload_n S.1 S.2.1 dX1_measure_0 rfl (lv_at hl 0 rfl) ?_
  refine lv_ldc2 (v := (-1 : Int64)) S.1 S.2.1 S.2.2.2.1 (S.2.2.2.2 _ kcX1_measure_11) dX1_measure_1 ?_
  obtain ⟨M1, eM1, hm⟩ := nmd_ok hm
  refine g_put (M' := (sJ M 49 0 (-1 : Int64))) (k := 49) (ci := 1) (f := 0) (v := .long (-1 : Int64)) (ty := .long) S C kiX1_measure_X1 tyX1 tyX1_ok nmX1 kfX1_measure_13 rfl (by decide) rfl (by decide +kernel) rfl rfl shC_49 rfl (Nat.le_of_ble_eq_true rfl) (by rw [sJ_at]; rfl) sJ_off dX1_measure_4 (fun H locs C => ?_)
  rw [← eM1] at C
  refine lv_aload_n S.1 S.2.1 dX1_measure_7 rfl (lv_at hl 0 rfl) ?_
  refine lv_lconst (v := (0 : Int64)) S.1 S.2.1 dX1_measure_8 (by decide) ?_
  obtain ⟨M2, eM2, hm⟩ := nmd_ok hm
  refine g_put (M' := (sJ M1 49 1 (0 : Int64))) (k := 49) (ci := 1) (f := 1) (v := .long (0 : Int64)) (ty := .long) S C kiX1_measure_X1 tyX1 tyX1_ok nmX1 kfX1_measure_19 rfl (by decide) rfl (by decide +kernel) rfl rfl shC_49 rfl (Nat.le_of_ble_eq_true rfl) (by rw [sJ_at]; rfl) sJ_off dX1_measure_9 (fun H locs C => ?_)
  rw [← eM2] at C
  refine lv_lconst (v := (0 : Int64)) S.1 S.2.1 dX1_measure_12 (by decide) ?_
  refine lv_lstore_n (lv' := [(3, .long (0 : Int64)), (0, .ref (ad 49)), (1, .ref (ad x1)), (2, .ref (ad x2))]) S.1 S.2.1 dX1_measure_13 rfl hl (by decide) rfl (fun ls hl => ?_)
  refine lv_iconst (v := (0 : Int32)) S.1 S.2.1 dX1_measure_14 (by decide) ?_
  refine lv_istore (lv' := [(5, .int (0 : Int32)), (3, .long (0 : Int64)), (0, .ref (ad 49)), (1, .ref (ad x1)), (2, .ref (ad x2))]) S.1 S.2.1 dX1_measure_15 hl (by decide) rfl (fun ls hl => ?_)
  refine lv_iconst (v := (0 : Int32)) S.1 S.2.1 dX1_measure_17 (by decide) ?_
  refine lv_istore (lv' := [(6, .int (0 : Int32)), (5, .int (0 : Int32)), (3, .long (0 : Int64)), (0, .ref (ad 49)), (1, .ref (ad x1)), (2, .ref (ad x2))]) S.1 S.2.1 dX1_measure_18 hl (by decide) rfl (fun ls hl => ?_)
  refine lv_iconst (v := (0 : Int32)) S.1 S.2.1 dX1_measure_20 (by decide) ?_
  refine lv_istore (lv' := [(7, .int (0 : Int32)), (6, .int (0 : Int32)), (5, .int (0 : Int32)), (3, .long (0 : Int64)), (0, .ref (ad 49)), (1, .ref (ad x1)), (2, .ref (ad x2))]) S.1 S.2.1 dX1_measure_21 hl (by decide) rfl (fun ls hl => ?_)
  exact wX1_measure_23 S hr hlk FU M2 _ _ C x1 hL1 x2 hL2 (0 : Int64) (0 : Int32) (0 : Int32) (0 : Int32) ls (lv_sub hl [4, 5, 6, 3, 2, 1, 0] rfl) hm
