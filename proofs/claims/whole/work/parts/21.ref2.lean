theorem kcX8_cuts_137 : Cond.constantLong RX8 137 (4294967296 : Int64) ∈ wsX8_cuts := by decide +kernel
theorem kiX8_cuts_X8 : ∀ w ∈ wsX80, w ∈ wsX8_cuts := by decide +kernel
theorem kfX8_cuts_139 : Cond.fieldLink RX8 139 "PrefixLeaderModel" "spanMany" "I" ∈ wsX8_cuts := by decide +kernel
theorem kfX8_cuts_23 : Cond.fieldLink RX8 23 "PrefixLeaderModel" "from" "[J" ∈ wsX8_cuts := by decide +kernel
theorem kiX8_cutsOf_X8 : ∀ w ∈ wsX80, w ∈ wsX8_cutsOf := by decide +kernel
theorem kfX8_cutsOf_7 : Cond.fieldLink RX8 7 "PrefixLeaderModel" "many" "[I" ∈ wsX8_cutsOf := by decide +kernel
theorem kfX8_cutsOf_13 : Cond.fieldLink RX8 13 "PrefixLeaderModel" "address" "[J" ∈ wsX8_cutsOf := by decide +kernel
theorem kfX8_cutsOf_17 : Cond.fieldLink RX8 17 "PrefixLeaderModel" "bits" "[I" ∈ wsX8_cutsOf := by decide +kernel
theorem kiX8_makeSpans_X8 : ∀ w ∈ wsX80, w ∈ wsX8_makeSpans := by decide +kernel
theorem kfX8_makeSpans_139 : Cond.fieldLink RX8 139 "PrefixLeaderModel" "spanMany" "I" ∈ wsX8_makeSpans := by decide +kernel
theorem kfX8_makeSpans_23 : Cond.fieldLink RX8 23 "PrefixLeaderModel" "from" "[J" ∈ wsX8_makeSpans := by decide +kernel
theorem kfX8_makeSpans_26 : Cond.fieldLink RX8 26 "PrefixLeaderModel" "led" "[I" ∈ wsX8_makeSpans := by decide +kernel
theorem kiX8_end_X8 : ∀ w ∈ wsX80, w ∈ wsX8_end := by decide +kernel
theorem kfX8_end_139 : Cond.fieldLink RX8 139 "PrefixLeaderModel" "spanMany" "I" ∈ wsX8_end := by decide +kernel
theorem kcX8_end_137 : Cond.constantLong RX8 137 (4294967296 : Int64) ∈ wsX8_end := by decide +kernel
theorem kfX8_end_23 : Cond.fieldLink RX8 23 "PrefixLeaderModel" "from" "[J" ∈ wsX8_end := by decide +kernel
theorem kiX8_spans_X8 : ∀ w ∈ wsX80, w ∈ wsX8_spans := by decide +kernel
theorem kfX8_spans_139 : Cond.fieldLink RX8 139 "PrefixLeaderModel" "spanMany" "I" ∈ wsX8_spans := by decide +kernel
theorem kiX8_span_X8 : ∀ w ∈ wsX80, w ∈ wsX8_span := by decide +kernel
theorem kfX8_span_139 : Cond.fieldLink RX8 139 "PrefixLeaderModel" "spanMany" "I" ∈ wsX8_span := by decide +kernel
theorem kcX8_span_124 : Cond.constantLong RX8 124 (-1 : Int64) ∈ wsX8_span := by decide +kernel
theorem kfX8_span_26 : Cond.fieldLink RX8 26 "PrefixLeaderModel" "led" "[I" ∈ wsX8_span := by decide +kernel
theorem kfX8_span_23 : Cond.fieldLink RX8 23 "PrefixLeaderModel" "from" "[J" ∈ wsX8_span := by decide +kernel
theorem kcX8_share_124 : Cond.constantLong RX8 124 (-1 : Int64) ∈ wsX8_share := by decide +kernel
theorem kiX8_share_X8 : ∀ w ∈ wsX80, w ∈ wsX8_share := by decide +kernel
theorem kfX8_share_139 : Cond.fieldLink RX8 139 "PrefixLeaderModel" "spanMany" "I" ∈ wsX8_share := by decide +kernel
theorem kfX8_share_26 : Cond.fieldLink RX8 26 "PrefixLeaderModel" "led" "[I" ∈ wsX8_share := by decide +kernel
theorem kfX8_share_23 : Cond.fieldLink RX8 23 "PrefixLeaderModel" "from" "[J" ∈ wsX8_share := by decide +kernel
theorem kcX8_differ_124 : Cond.constantLong RX8 124 (-1 : Int64) ∈ wsX8_differ := by decide +kernel
theorem kiX8_differ_X8 : ∀ w ∈ wsX80, w ∈ wsX8_differ := by decide +kernel
theorem kfX8_differ_139 : Cond.fieldLink RX8 139 "PrefixLeaderModel" "spanMany" "I" ∈ wsX8_differ := by decide +kernel
theorem kfX8_differ_26 : Cond.fieldLink RX8 26 "PrefixLeaderModel" "led" "[I" ∈ wsX8_differ := by decide +kernel
theorem kfX8_differ_23 : Cond.fieldLink RX8 23 "PrefixLeaderModel" "from" "[J" ∈ wsX8_differ := by decide +kernel
theorem kiX8_mixedAt_X8 : ∀ w ∈ wsX80, w ∈ wsX8_mixedAt := by decide +kernel
theorem kfX8_mixedAt_29 : Cond.fieldLink RX8 29 "PrefixLeaderModel" "mixedMany" "[I" ∈ wsX8_mixedAt := by decide +kernel
theorem kfX8_mixedAt_32 : Cond.fieldLink RX8 32 "PrefixLeaderModel" "mixed" "[J" ∈ wsX8_mixedAt := by decide +kernel
theorem kiX8_setOf_X8 : ∀ w ∈ wsX80, w ∈ wsX8_setOf := by decide +kernel
theorem kfX8_setOf_35 : Cond.fieldLink RX8 35 "PrefixLeaderModel" "mixedSet" "[I" ∈ wsX8_setOf := by decide +kernel
theorem kfX8_setOf_26 : Cond.fieldLink RX8 26 "PrefixLeaderModel" "led" "[I" ∈ wsX8_setOf := by decide +kernel
theorem kiX8_makeSets_X8 : ∀ w ∈ wsX80, w ∈ wsX8_makeSets := by decide +kernel
theorem kfX8_makeSets_29 : Cond.fieldLink RX8 29 "PrefixLeaderModel" "mixedMany" "[I" ∈ wsX8_makeSets := by decide +kernel
theorem kfX8_makeSets_139 : Cond.fieldLink RX8 139 "PrefixLeaderModel" "spanMany" "I" ∈ wsX8_makeSets := by decide +kernel
theorem kfX8_makeSets_23 : Cond.fieldLink RX8 23 "PrefixLeaderModel" "from" "[J" ∈ wsX8_makeSets := by decide +kernel
theorem kfX8_makeSets_32 : Cond.fieldLink RX8 32 "PrefixLeaderModel" "mixed" "[J" ∈ wsX8_makeSets := by decide +kernel
theorem kfX8_makeSets_35 : Cond.fieldLink RX8 35 "PrefixLeaderModel" "mixedSet" "[I" ∈ wsX8_makeSets := by decide +kernel
def mX8_cuts_61 : Nat → gMem → Int64 → Int32 → Int32 → Option gMem
  | 0, _, _, _, _ => none
  | n + 1, M, x1, x3, x4 => if x4 ≤ x3 then (ck (inb x3 600) <| nmd (sJ M 5 x3.toNatClampNeg x1) fun M3 => nmd (sI M3 0 4 ((M3.1 0 4) + (1 : Int32))) fun M4 => some M4) else (ck (inb (x4 - (1 : Int32)) 600) <| ck (inb x4 600) <| nmd (sJ M 5 x4.toNatClampNeg (M.2 5 (x4 - (1 : Int32)).toNatClampNeg)) fun M7 => nmd (x4 + (-1 : Int32)) fun y8 => mX8_cuts_61 n M7 x1 x3 y8)
def mX8_cuts_37 (M : gMem) (x1 : Int64) (x3 : Int32) : Option gMem := if x3 ≤ 0 then (nmd (M.1 0 4) fun y2 => mX8_cuts_61 FU M x1 x3 y2) else (ck (inb (x3 - (1 : Int32)) 600) <| if (M.2 5 (x3 - (1 : Int32)).toNatClampNeg) = x1 then (some M) else (nmd (M.1 0 4) fun y5 => mX8_cuts_61 FU M x1 x3 y5))
def mX8_cuts_14 : Nat → gMem → Int64 → Int32 → Option gMem
  | 0, _, _, _ => none
  | n + 1, M, x1, x3 => if x3 ≤ 0 then (mX8_cuts_37 M x1 x3) else (ck (inb (x3 - (1 : Int32)) 600) <| if (M.2 5 (x3 - (1 : Int32)).toNatClampNeg) ≤ x1 then (mX8_cuts_37 M x1 x3) else (nmd (x3 + (-1 : Int32)) fun y4 => mX8_cuts_14 n M x1 y4))
def mX8_cuts (M : gMem) (x1 : Int64) : Option gMem := if x1 < (4294967296 : Int64) then (nmd (M.1 0 4) fun y2 => mX8_cuts_14 FU M x1 y2) else (some M)
set_option maxHeartbeats 4000000 in
set_option maxRecDepth 100000 in
theorem wX8_cuts_61 {p : Program} {l : Launch} {e : Env} {s : State} {m : MethodId} {args : Array Value} {below : List Frame} {meth : Method} {c : Code} {D : va_G} {cy : gCy} {ad : Nat → Nat} {r0 : gMem} (S : CallFix p m c cX8_cuts 5 s args wsX8_cuts RX8) (hr : meth.sig.returnType = none) (hlk : meth.locks = false) : ∀ (n : Nat), ∀ (M : gMem) (H : Heap) (locs : List Loc), gW shR D cy ad s s.heap M H locs → ∀ (x1 : Int64) (x3 : Int32) (x4 : Int32), ∀ (ls : Array Slot), lv_has ls 5 [(0, .ref (ad 0)), (1, .long x1), (3, .int x3), (4, .int x4)] → mX8_cuts_61 n M x1 x3 x4 = some r0 → W p l e (gR 0 0) s m args below meth c H locs 0 0 (MQ below (gQv shR D cy ad r0) args s 0 0 (gA shR ad)) (F0 m 61 ls []) := by
  intro n
  induction n with
  | zero => intro M H locs C x1 x3 x4 ls hl hm; exact absurd hm (by simp [mX8_cuts_61])
  | succ n ih =>
    intro M H locs C x1 x3 x4 ls hl hm
    rw [mX8_cuts_61] at hm
    refine lv_iload S.1 S.2.1 dX8_cuts_61 (lv_at hl 3 rfl) ?_
    refine lv_iload_n S.1 S.2.1 dX8_cuts_63 rfl (lv_at hl 2 rfl) ?_
    refine lv_icmp_le (tgt := 89) S.1 S.2.1 dX8_cuts_64 (by decide) (fun c1 => ?_) (fun c1 => ?_)
    · rw [if_pos c1] at hm
      refine lv_aload_n S.1 S.2.1 dX8_cuts_89 rfl (lv_at hl 0 rfl) ?_
      refine g_get (k := 0) (ci := 7) (f := 5) (v := .ref (ad 5))  S C kiX8_cuts_X8 kfX8_cuts_23 rfl (by decide) shR_0 rfl rfl dX8_cuts_90 ?_
      refine lv_iload_n S.1 S.2.1 dX8_cuts_93 rfl (lv_at hl 2 rfl) ?_
      refine lv_lload_n S.1 S.2.1 dX8_cuts_94 rfl (lv_at hl 1 rfl) ?_
      obtain ⟨h2, hm⟩ := ck_ok hm
      obtain ⟨M3, eM3, hm⟩ := nmd_ok hm
      refine g_last S C (k := 5) shR_5 h2 dX8_cuts_95 (fun H locs C => ?_)
      rw [← eM3] at C
      refine lv_aload_n S.1 S.2.1 dX8_cuts_96 rfl (lv_at hl 0 rfl) ?_
      refine lv_dup S.1 S.2.1 dX8_cuts_97 rfl ?_
      refine g_get (k := 0) (ci := 7) (f := 4) (v := .int (M3.1 0 4))  S C kiX8_cuts_X8 kfX8_cuts_139 rfl (by decide) shR_0 rfl rfl dX8_cuts_98 ?_
      refine lv_iconst (v := (1 : Int32)) S.1 S.2.1 dX8_cuts_101 (by decide) ?_
      refine lv_iadd S.1 S.2.1 dX8_cuts_102 ?_
      obtain ⟨M4, eM4, hm⟩ := nmd_ok hm
      refine g_put (M' := (sI M3 0 4 ((M3.1 0 4) + (1 : Int32)))) (k := 0) (ci := 7) (f := 4) (v := .int ((M3.1 0 4) + (1 : Int32))) (ty := .int) S C kiX8_cuts_X8 tyX8 tyX8_ok nmX8 kfX8_cuts_139 rfl (by decide) rfl (by decide +kernel) rfl rfl shR_0 rfl (Nat.le_of_ble_eq_true rfl) (by rw [sI_at]; rfl) sI_off dX8_cuts_103 (fun H locs C => ?_)
      rw [← eM4] at C
      exact gRetv S hr hlk C (Option.some.inj hm) dX8_cuts_106
    · rw [if_neg c1] at hm
      refine lv_aload_n S.1 S.2.1 dX8_cuts_67 rfl (lv_at hl 0 rfl) ?_
      refine g_get (k := 0) (ci := 7) (f := 5) (v := .ref (ad 5))  S C kiX8_cuts_X8 kfX8_cuts_23 rfl (by decide) shR_0 rfl rfl dX8_cuts_68 ?_
      refine lv_iload S.1 S.2.1 dX8_cuts_71 (lv_at hl 3 rfl) ?_
      refine lv_aload_n S.1 S.2.1 dX8_cuts_73 rfl (lv_at hl 0 rfl) ?_
      refine g_get (k := 0) (ci := 7) (f := 5) (v := .ref (ad 5))  S C kiX8_cuts_X8 kfX8_cuts_23 rfl (by decide) shR_0 rfl rfl dX8_cuts_74 ?_
      refine lv_iload S.1 S.2.1 dX8_cuts_77 (lv_at hl 3 rfl) ?_
      refine lv_iconst (v := (1 : Int32)) S.1 S.2.1 dX8_cuts_79 (by decide) ?_
      refine lv_isub S.1 S.2.1 dX8_cuts_80 ?_
      obtain ⟨h5, hm⟩ := ck_ok hm
      refine g_lald S C (k := 5) shR_5 h5 dX8_cuts_81 ?_
      obtain ⟨h6, hm⟩ := ck_ok hm
      obtain ⟨M7, eM7, hm⟩ := nmd_ok hm
      refine g_last S C (k := 5) shR_5 h6 dX8_cuts_82 (fun H locs C => ?_)
      rw [← eM7] at C
      obtain ⟨y8, ey8, hm⟩ := nmd_ok hm
      refine lv_iinc (v := y8) (lv' := [(4, .int y8), (0, .ref (ad 0)), (1, .long x1), (3, .int x3)]) S.1 S.2.1 dX8_cuts_83 hl (k := 3) rfl (by rw [ey8]; rfl) (by decide) rfl (fun ls hl => ?_)
      refine lv_goto (tgt := 61) S.1 S.2.1 dX8_cuts_86 (by decide) ?_
      exact ih M7 _ _ C x1 x3 y8 ls (lv_sub hl [1, 2, 3, 0] rfl) hm
set_option maxHeartbeats 4000000 in
set_option maxRecDepth 100000 in
theorem wX8_cuts_37 {p : Program} {l : Launch} {e : Env} {s : State} {m : MethodId} {args : Array Value} {below : List Frame} {meth : Method} {c : Code} {D : va_G} {cy : gCy} {ad : Nat → Nat} {r0 : gMem} (S : CallFix p m c cX8_cuts 5 s args wsX8_cuts RX8) (hr : meth.sig.returnType = none) (hlk : meth.locks = false) : ∀ (M : gMem) (H : Heap) (locs : List Loc), gW shR D cy ad s s.heap M H locs → ∀ (x1 : Int64) (x3 : Int32), ∀ (ls : Array Slot), lv_has ls 5 [(0, .ref (ad 0)), (1, .long x1), (3, .int x3)] → mX8_cuts_37 M x1 x3 = some r0 → W p l e (gR 0 0) s m args below meth c H locs 0 0 (MQ below (gQv shR D cy ad r0) args s 0 0 (gA shR ad)) (F0 m 37 ls []) := by
  intro M H locs C x1 x3 ls hl hm
  rw [mX8_cuts_37] at hm
  refine lv_iload_n S.1 S.2.1 dX8_cuts_37 rfl (lv_at hl 2 rfl) ?_
  refine lv_if_le (tgt := 55) S.1 S.2.1 dX8_cuts_38 (by decide) (fun c1 => ?_) (fun c1 => ?_)
  · rw [if_pos c1] at hm
    refine lv_aload_n S.1 S.2.1 dX8_cuts_55 rfl (lv_at hl 0 rfl) ?_
    refine g_get (k := 0) (ci := 7) (f := 4) (v := .int (M.1 0 4))  S C kiX8_cuts_X8 kfX8_cuts_139 rfl (by decide) shR_0 rfl rfl dX8_cuts_56 ?_
    obtain ⟨y2, ey2, hm⟩ := nmd_ok hm
    refine gNmI ey2 ?_
    refine lv_istore (lv' := [(4, .int y2), (0, .ref (ad 0)), (1, .long x1), (3, .int x3)]) S.1 S.2.1 dX8_cuts_59 hl (by decide) rfl (fun ls hl => ?_)
    exact wX8_cuts_61 S hr hlk FU M _ _ C x1 x3 y2 ls (lv_sub hl [1, 2, 3, 0] rfl) hm
  · rw [if_neg c1] at hm
    refine lv_aload_n S.1 S.2.1 dX8_cuts_41 rfl (lv_at hl 0 rfl) ?_
    refine g_get (k := 0) (ci := 7) (f := 5) (v := .ref (ad 5))  S C kiX8_cuts_X8 kfX8_cuts_23 rfl (by decide) shR_0 rfl rfl dX8_cuts_42 ?_
    refine lv_iload_n S.1 S.2.1 dX8_cuts_45 rfl (lv_at hl 2 rfl) ?_
    refine lv_iconst (v := (1 : Int32)) S.1 S.2.1 dX8_cuts_46 (by decide) ?_
    refine lv_isub S.1 S.2.1 dX8_cuts_47 ?_
    obtain ⟨h3, hm⟩ := ck_ok hm
    refine g_lald S C (k := 5) shR_5 h3 dX8_cuts_48 ?_
    refine lv_lload_n S.1 S.2.1 dX8_cuts_49 rfl (lv_at hl 1 rfl) ?_
    refine W.lcmp S.1 S.2.1 dX8_cuts_50 ?_
    refine lv_if_ne (tgt := 55) S.1 S.2.1 dX8_cuts_51 (by decide) (fun c4 => ?_) (fun c4 => ?_)
    · rw [if_neg (fun q => c4 (cmp_eq.mpr q))] at hm
      refine lv_aload_n S.1 S.2.1 dX8_cuts_55 rfl (lv_at hl 0 rfl) ?_
      refine g_get (k := 0) (ci := 7) (f := 4) (v := .int (M.1 0 4))  S C kiX8_cuts_X8 kfX8_cuts_139 rfl (by decide) shR_0 rfl rfl dX8_cuts_56 ?_
      obtain ⟨y5, ey5, hm⟩ := nmd_ok hm
      refine gNmI ey5 ?_
      refine lv_istore (lv' := [(4, .int y5), (0, .ref (ad 0)), (1, .long x1), (3, .int x3)]) S.1 S.2.1 dX8_cuts_59 hl (by decide) rfl (fun ls hl => ?_)
      exact wX8_cuts_61 S hr hlk FU M _ _ C x1 x3 y5 ls (lv_sub hl [1, 2, 3, 0] rfl) hm
    · rw [if_pos (cmp_eq.mp c4)] at hm
      exact gRetv S hr hlk C (Option.some.inj hm) dX8_cuts_54
set_option maxHeartbeats 4000000 in
set_option maxRecDepth 100000 in
theorem wX8_cuts_14 {p : Program} {l : Launch} {e : Env} {s : State} {m : MethodId} {args : Array Value} {below : List Frame} {meth : Method} {c : Code} {D : va_G} {cy : gCy} {ad : Nat → Nat} {r0 : gMem} (S : CallFix p m c cX8_cuts 5 s args wsX8_cuts RX8) (hr : meth.sig.returnType = none) (hlk : meth.locks = false) : ∀ (n : Nat), ∀ (M : gMem) (H : Heap) (locs : List Loc), gW shR D cy ad s s.heap M H locs → ∀ (x1 : Int64) (x3 : Int32), ∀ (ls : Array Slot), lv_has ls 5 [(0, .ref (ad 0)), (1, .long x1), (3, .int x3)] → mX8_cuts_14 n M x1 x3 = some r0 → W p l e (gR 0 0) s m args below meth c H locs 0 0 (MQ below (gQv shR D cy ad r0) args s 0 0 (gA shR ad)) (F0 m 14 ls []) := by
  intro n
  induction n with
  | zero => intro M H locs C x1 x3 ls hl hm; exact absurd hm (by simp [mX8_cuts_14])
  | succ n ih =>
    intro M H locs C x1 x3 ls hl hm
    rw [mX8_cuts_14] at hm
    refine lv_iload_n S.1 S.2.1 dX8_cuts_14 rfl (lv_at hl 2 rfl) ?_
    refine lv_if_le (tgt := 37) S.1 S.2.1 dX8_cuts_15 (by decide) (fun c1 => ?_) (fun c1 => ?_)
    · rw [if_pos c1] at hm
      exact wX8_cuts_37 S hr hlk M _ _ C x1 x3 ls (lv_sub hl [0, 1, 2] rfl) hm
    · rw [if_neg c1] at hm
      refine lv_aload_n S.1 S.2.1 dX8_cuts_18 rfl (lv_at hl 0 rfl) ?_
      refine g_get (k := 0) (ci := 7) (f := 5) (v := .ref (ad 5))  S C kiX8_cuts_X8 kfX8_cuts_23 rfl (by decide) shR_0 rfl rfl dX8_cuts_19 ?_
      refine lv_iload_n S.1 S.2.1 dX8_cuts_22 rfl (lv_at hl 2 rfl) ?_
      refine lv_iconst (v := (1 : Int32)) S.1 S.2.1 dX8_cuts_23 (by decide) ?_
      refine lv_isub S.1 S.2.1 dX8_cuts_24 ?_
      obtain ⟨h2, hm⟩ := ck_ok hm
      refine g_lald S C (k := 5) shR_5 h2 dX8_cuts_25 ?_
      refine lv_lload_n S.1 S.2.1 dX8_cuts_26 rfl (lv_at hl 1 rfl) ?_
      refine W.lcmp S.1 S.2.1 dX8_cuts_27 ?_
      refine lv_if_le (tgt := 37) S.1 S.2.1 dX8_cuts_28 (by decide) (fun c3 => ?_) (fun c3 => ?_)
      · rw [if_pos (cmp_le.mp c3)] at hm
        exact wX8_cuts_37 S hr hlk M _ _ C x1 x3 ls (lv_sub hl [0, 1, 2] rfl) hm
      · rw [if_neg (fun q => c3 (cmp_le.mpr q))] at hm
        obtain ⟨y4, ey4, hm⟩ := nmd_ok hm
        refine lv_iinc (v := y4) (lv' := [(3, .int y4), (0, .ref (ad 0)), (1, .long x1)]) S.1 S.2.1 dX8_cuts_31 hl (k := 2) rfl (by rw [ey4]; rfl) (by decide) rfl (fun ls hl => ?_)
        refine lv_goto (tgt := 14) S.1 S.2.1 dX8_cuts_34 (by decide) ?_
        exact ih M _ _ C x1 y4 ls (lv_sub hl [1, 2, 0] rfl) hm
set_option maxHeartbeats 4000000 in
set_option maxRecDepth 100000 in
theorem c_X8_cuts (l : Launch) (D : va_G) (cy : gCy) (ad : Nat → Nat) (M : gMem) (x1 : Int64) (r0 : gMem) (hm : mX8_cuts M x1 = some r0) : Met l yX8_cuts wsX8_cuts (gR 0 0) (va_Pc [.ref (ad 0), .long x1] (gP shR D cy ad M)) (gQv shR D cy ad r0) 0 0 (gA shR ad) := by
  refine gEnter (cc := cX8_cuts) (maxL := 5) (ret := none) (by decide) rfl (Nat.le_of_ble_eq_true rfl) ?_
  intro p e s m below meth c ls S hr hlk C hl
  have S : CallFix p m c cX8_cuts 5 s _ wsX8_cuts RX8 := S
  have hl : lv_has ls 5 [(0, .ref (ad 0)), (1, .long x1)] := hl
  rw [mX8_cuts] at hm
  refine lv_lload_n S.1 S.2.1 dX8_cuts_0 rfl (lv_at hl 1 rfl) ?_
  refine lv_ldc2 (v := (4294967296 : Int64)) S.1 S.2.1 S.2.2.2.1 (S.2.2.2.2 _ kcX8_cuts_137) dX8_cuts_1 ?_
  refine W.lcmp S.1 S.2.1 dX8_cuts_4 ?_
  refine lv_if_lt (tgt := 9) S.1 S.2.1 dX8_cuts_5 (by decide) (fun c1 => ?_) (fun c1 => ?_)
  · rw [if_pos (cmp_lt.mp c1)] at hm
    refine lv_aload_n S.1 S.2.1 dX8_cuts_9 rfl (lv_at hl 0 rfl) ?_
    refine g_get (k := 0) (ci := 7) (f := 4) (v := .int (M.1 0 4))  S C kiX8_cuts_X8 kfX8_cuts_139 rfl (by decide) shR_0 rfl rfl dX8_cuts_10 ?_
    obtain ⟨y2, ey2, hm⟩ := nmd_ok hm
    refine gNmI ey2 ?_
    refine lv_istore_n (lv' := [(3, .int y2), (0, .ref (ad 0)), (1, .long x1)]) S.1 S.2.1 dX8_cuts_13 rfl hl (by decide) rfl (fun ls hl => ?_)
    exact wX8_cuts_14 S hr hlk FU M _ _ C x1 y2 ls (lv_sub hl [1, 2, 0] rfl) hm
  · rw [if_neg (fun q => c1 (cmp_lt.mpr q))] at hm
    exact gRetv S hr hlk C (Option.some.inj hm) dX8_cuts_8
def mX8_cutsOf_2 : Nat → gMem → Int32 → Int32 → Option gMem
  | 0, _, _, _ => none
  | n + 1, M, x1, x2 => ck (inb x1 6) <| if (M.1 1 x1.toNatClampNeg) ≤ x2 then (some M) else (ck (inb (((64 : Int32) * x1) + x2) 384) <| (mX8_cuts M (M.2 2 (((64 : Int32) * x1) + x2).toNatClampNeg)).bind fun r4 => ck (inb (((64 : Int32) * x1) + x2) 384) <| ck (inb (((64 : Int32) * x1) + x2) 384) <| (mX8_size (r4.1 3 (((64 : Int32) * x1) + x2).toNatClampNeg)).bind fun r7 => (mX8_cuts r4 ((r4.2 2 (((64 : Int32) * x1) + x2).toNatClampNeg) + r7)).bind fun r8 => nmd (x2 + (1 : Int32)) fun y9 => mX8_cutsOf_2 n r8 x1 y9)
def mX8_cutsOf (M : gMem) (x1 : Int32) : Option gMem := mX8_cutsOf_2 FU M x1 (0 : Int32)
set_option maxHeartbeats 4000000 in
set_option maxRecDepth 100000 in
theorem wX8_cutsOf_2 {p : Program} {l : Launch} {e : Env} {s : State} {m : MethodId} {args : Array Value} {below : List Frame} {meth : Method} {c : Code} {D : va_G} {cy : gCy} {ad : Nat → Nat} {r0 : gMem} (S : CallFix p m c cX8_cutsOf 3 s args wsX8_cutsOf RX8) (hr : meth.sig.returnType = none) (hlk : meth.locks = false) : ∀ (n : Nat), ∀ (M : gMem) (H : Heap) (locs : List Loc), gW shR D cy ad s s.heap M H locs → ∀ (x1 : Int32) (x2 : Int32), ∀ (ls : Array Slot), lv_has ls 3 [(0, .ref (ad 0)), (1, .int x1), (2, .int x2)] → mX8_cutsOf_2 n M x1 x2 = some r0 → W p l e (gR 1 24) s m args below meth c H locs 0 0 (MQ below (gQv shR D cy ad r0) args s 0 0 (gA shR ad)) (F0 m 2 ls []) := by
  intro n
  induction n with
  | zero => intro M H locs C x1 x2 ls hl hm; exact absurd hm (by simp [mX8_cutsOf_2])
  | succ n ih =>
    intro M H locs C x1 x2 ls hl hm
    rw [mX8_cutsOf_2] at hm
    refine lv_iload_n S.1 S.2.1 dX8_cutsOf_2 rfl (lv_at hl 2 rfl) ?_
    refine lv_aload_n S.1 S.2.1 dX8_cutsOf_3 rfl (lv_at hl 0 rfl) ?_
    refine g_get (k := 0) (ci := 7) (f := 0) (v := .ref (ad 1))  S C kiX8_cutsOf_X8 kfX8_cutsOf_7 rfl (by decide) shR_0 rfl rfl dX8_cutsOf_4 ?_
    refine lv_iload_n S.1 S.2.1 dX8_cutsOf_7 rfl (lv_at hl 1 rfl) ?_
    obtain ⟨h1, hm⟩ := ck_ok hm
    refine g_iald S C (k := 1) shR_1 h1 dX8_cutsOf_8 ?_
    refine lv_icmp_ge (tgt := 63) S.1 S.2.1 dX8_cutsOf_9 (by decide) (fun c2 => ?_) (fun c2 => ?_)
    · rw [if_pos c2] at hm
      exact gRetv S hr hlk C (Option.some.inj hm) dX8_cutsOf_63
    · rw [if_neg c2] at hm
      refine lv_aload_n S.1 S.2.1 dX8_cutsOf_12 rfl (lv_at hl 0 rfl) ?_
      refine lv_aload_n S.1 S.2.1 dX8_cutsOf_13 rfl (lv_at hl 0 rfl) ?_
      refine g_get (k := 0) (ci := 7) (f := 1) (v := .ref (ad 2))  S C kiX8_cutsOf_X8 kfX8_cutsOf_13 rfl (by decide) shR_0 rfl rfl dX8_cutsOf_14 ?_
      refine lv_bipush (v := (64 : Int32)) S.1 S.2.1 dX8_cutsOf_17 (by decide) ?_
      refine lv_iload_n S.1 S.2.1 dX8_cutsOf_19 rfl (lv_at hl 1 rfl) ?_
      refine lv_imul S.1 S.2.1 dX8_cutsOf_20 ?_
      refine lv_iload_n S.1 S.2.1 dX8_cutsOf_21 rfl (lv_at hl 2 rfl) ?_
      refine lv_iadd S.1 S.2.1 dX8_cutsOf_22 ?_
      obtain ⟨h3, hm⟩ := ck_ok hm
      refine g_lald S C (k := 2) shR_2 h3 dX8_cutsOf_23 ?_
      obtain ⟨r4, hcr4, hm⟩ := bd_ok hm
      refine gC_v C (gRV (k := 0) (ci := 7) (r := (RX8, TX8, 34)) (As := [.long (M.2 2 (((64 : Int32) * x1) + x2).toNatClampNeg)]) (rest := []) 1 S C (c_X8_cuts l D cy ad M (M.2 2 (((64 : Int32) * x1) + x2).toNatClampNeg) r4 hcr4) gX8_cutsOf_X8_cuts rfl (by decide +kernel) (by decide) shR_0 rfl rfl rfl hl.1 rfl (Nat.le_of_ble_eq_true rfl) dX8_cutsOf_24) (fun H locs C => ?_)
      refine lv_aload_n S.1 S.2.1 dX8_cutsOf_27 rfl (lv_at hl 0 rfl) ?_
      refine lv_aload_n S.1 S.2.1 dX8_cutsOf_28 rfl (lv_at hl 0 rfl) ?_
      refine g_get (k := 0) (ci := 7) (f := 1) (v := .ref (ad 2))  S C kiX8_cutsOf_X8 kfX8_cutsOf_13 rfl (by decide) shR_0 rfl rfl dX8_cutsOf_29 ?_
      refine lv_bipush (v := (64 : Int32)) S.1 S.2.1 dX8_cutsOf_32 (by decide) ?_
      refine lv_iload_n S.1 S.2.1 dX8_cutsOf_34 rfl (lv_at hl 1 rfl) ?_
      refine lv_imul S.1 S.2.1 dX8_cutsOf_35 ?_
      refine lv_iload_n S.1 S.2.1 dX8_cutsOf_36 rfl (lv_at hl 2 rfl) ?_
      refine lv_iadd S.1 S.2.1 dX8_cutsOf_37 ?_
      obtain ⟨h5, hm⟩ := ck_ok hm
      refine g_lald S C (k := 2) shR_2 h5 dX8_cutsOf_38 ?_
      refine lv_aload_n S.1 S.2.1 dX8_cutsOf_39 rfl (lv_at hl 0 rfl) ?_
      refine g_get (k := 0) (ci := 7) (f := 2) (v := .ref (ad 3))  S C kiX8_cutsOf_X8 kfX8_cutsOf_17 rfl (by decide) shR_0 rfl rfl dX8_cutsOf_40 ?_
      refine lv_bipush (v := (64 : Int32)) S.1 S.2.1 dX8_cutsOf_43 (by decide) ?_
      refine lv_iload_n S.1 S.2.1 dX8_cutsOf_45 rfl (lv_at hl 1 rfl) ?_
      refine lv_imul S.1 S.2.1 dX8_cutsOf_46 ?_
      refine lv_iload_n S.1 S.2.1 dX8_cutsOf_47 rfl (lv_at hl 2 rfl) ?_
      refine lv_iadd S.1 S.2.1 dX8_cutsOf_48 ?_
      obtain ⟨h6, hm⟩ := ck_ok hm
      refine g_iald S C (k := 3) shR_3 h6 dX8_cutsOf_49 ?_
      obtain ⟨r7, hcr7, hm⟩ := bd_ok hm
      refine gC_l C (gRS (As := [.int (r4.1 3 (((64 : Int32) * x1) + x2).toNatClampNeg)]) (rest := [.long (r4.2 2 (((64 : Int32) * x1) + x2).toNatClampNeg), .ref (ad 0)]) 1 S C (c_X8_size l D cy ad r4 (r4.1 3 (((64 : Int32) * x1) + x2).toNatClampNeg) r7 hcr7) gX8_cutsOf_X8_size rfl (by decide +kernel) (by decide) rfl hl.1 rfl (Nat.le_of_ble_eq_true rfl) dX8_cutsOf_50) (fun H locs C => ?_)
      refine lv_ladd S.1 S.2.1 dX8_cutsOf_53 ?_
      obtain ⟨r8, hcr8, hm⟩ := bd_ok hm
      refine gC_v C (gRV (k := 0) (ci := 7) (r := (RX8, TX8, 34)) (As := [.long ((r4.2 2 (((64 : Int32) * x1) + x2).toNatClampNeg) + r7)]) (rest := []) 1 S C (c_X8_cuts l D cy ad r4 ((r4.2 2 (((64 : Int32) * x1) + x2).toNatClampNeg) + r7) r8 hcr8) gX8_cutsOf_X8_cuts rfl (by decide +kernel) (by decide) shR_0 rfl rfl rfl hl.1 rfl (Nat.le_of_ble_eq_true rfl) dX8_cutsOf_54) (fun H locs C => ?_)
      obtain ⟨y9, ey9, hm⟩ := nmd_ok hm
      refine lv_iinc (v := y9) (lv' := [(2, .int y9), (0, .ref (ad 0)), (1, .int x1)]) S.1 S.2.1 dX8_cutsOf_57 hl (k := 2) rfl (by rw [ey9]; rfl) (by decide) rfl (fun ls hl => ?_)
      refine lv_goto (tgt := 2) S.1 S.2.1 dX8_cutsOf_60 (by decide) ?_
      exact ih r8 _ _ C x1 y9 ls (lv_sub hl [1, 2, 0] rfl) hm
set_option maxHeartbeats 4000000 in
set_option maxRecDepth 100000 in
theorem c_X8_cutsOf (l : Launch) (D : va_G) (cy : gCy) (ad : Nat → Nat) (M : gMem) (x1 : Int32) (r0 : gMem) (hm : mX8_cutsOf M x1 = some r0) : Met l yX8_cutsOf wsX8_cutsOf (gR 1 24) (va_Pc [.ref (ad 0), .int x1] (gP shR D cy ad M)) (gQv shR D cy ad r0) 0 0 (gA shR ad) := by
  refine gEnter (cc := cX8_cutsOf) (maxL := 3) (ret := none) (by decide) rfl (Nat.le_of_ble_eq_true rfl) ?_
  intro p e s m below meth c ls S hr hlk C hl
  have S : CallFix p m c cX8_cutsOf 3 s _ wsX8_cutsOf RX8 := S
  have hl : lv_has ls 3 [(0, .ref (ad 0)), (1, .int x1)] := hl
  rw [mX8_cutsOf] at hm
  refine lv_iconst (v := (0 : Int32)) S.1 S.2.1 dX8_cutsOf_0 (by decide) ?_
  refine lv_istore_n (lv' := [(2, .int (0 : Int32)), (0, .ref (ad 0)), (1, .int x1)]) S.1 S.2.1 dX8_cutsOf_1 rfl hl (by decide) rfl (fun ls hl => ?_)
  exact wX8_cutsOf_2 S hr hlk FU M _ _ C x1 (0 : Int32) ls (lv_sub hl [1, 2, 0] rfl) hm
def mX8_makeSpans_78 (k31 : gMem → Int32 → Int32 → Int32 → Int32 → Int32 → Option gMem) (M : gMem) (x1 : Int32) (x2 : Int32) (x3 : Int32) (x4 : Int32) (x5 : Int32) (x6 : Int32) : Option gMem := ck (inb x5 600) <| ck (inb x4 600) <| nmd (sJ M 5 x4.toNatClampNeg (M.2 5 x5.toNatClampNeg)) fun M3 => ck (inb x4 600) <| nmd (sI M3 6 x4.toNatClampNeg x6) fun M5 => nmd (x4 + (1 : Int32)) fun y6 => nmd (x5 + (1 : Int32)) fun y7 => k31 M5 x1 x2 x3 y6 y7
def mX8_makeSpans_31 : Nat → gMem → Int32 → Int32 → Int32 → Int32 → Int32 → Option gMem
  | 0, _, _, _, _, _, _ => none
  | n + 1, M, x1, x2, x3, x4, x5 => if (M.1 0 4) ≤ x5 then (nmd (sI M 0 4 x4) fun M2 => some M2) else (ck (inb x5 600) <| (mX8_leads_ M x1 x2 x3 (M.2 5 x5.toNatClampNeg)).bind fun r4 => if x4 ≤ 0 then (mX8_makeSpans_78 (mX8_makeSpans_31 n) M x1 x2 x3 x4 x5 r4) else (ck (inb (x4 - (1 : Int32)) 600) <| if (M.1 6 (x4 - (1 : Int32)).toNatClampNeg) = r4 then (nmd (x5 + (1 : Int32)) fun y8 => mX8_makeSpans_31 n M x1 x2 x3 x4 y8) else (mX8_makeSpans_78 (mX8_makeSpans_31 n) M x1 x2 x3 x4 x5 r4)))
def mX8_makeSpans (M : gMem) (x1 : Int32) (x2 : Int32) (x3 : Int32) : Option gMem := nmd (sI M 0 4 (0 : Int32)) fun M1 => (mX8_cuts M1 (0 : Int64)).bind fun r2 => (mX8_cutsOf r2 x2).bind fun r3 => if x1 = (3 : Int32) then (mX8_makeSpans_31 FU r3 x1 x2 x3 (0 : Int32) (0 : Int32)) else ((mX8_cutsOf r3 x3).bind fun r5 => mX8_makeSpans_31 FU r5 x1 x2 x3 (0 : Int32) (0 : Int32))
set_option maxHeartbeats 4000000 in
set_option maxRecDepth 100000 in
theorem wX8_makeSpans_78 {p : Program} {l : Launch} {e : Env} {s : State} {m : MethodId} {args : Array Value} {below : List Frame} {meth : Method} {c : Code} {D : va_G} {cy : gCy} {ad : Nat → Nat} {r0 : gMem} (S : CallFix p m c cX8_makeSpans 7 s args wsX8_makeSpans RX8) (hr : meth.sig.returnType = none) (hlk : meth.locks = false) {k31 : gMem → Int32 → Int32 → Int32 → Int32 → Int32 → Option gMem} (kk31 : ∀ (M : gMem) (H : Heap) (locs : List Loc), gW shR D cy ad s s.heap M H locs → ∀ (x1 : Int32) (x2 : Int32) (x3 : Int32) (x4 : Int32) (x5 : Int32), ∀ (ls : Array Slot), lv_has ls 7 [(0, .ref (ad 0)), (1, .int x1), (2, .int x2), (3, .int x3), (4, .int x4), (5, .int x5)] → k31 M x1 x2 x3 x4 x5 = some r0 → W p l e (gR 5 120) s m args below meth c H locs 0 0 (MQ below (gQv shR D cy ad r0) args s 0 0 (gA shR ad)) (F0 m 31 ls [])) : ∀ (M : gMem) (H : Heap) (locs : List Loc), gW shR D cy ad s s.heap M H locs → ∀ (x1 : Int32) (x2 : Int32) (x3 : Int32) (x4 : Int32) (x5 : Int32) (x6 : Int32), ∀ (ls : Array Slot), lv_has ls 7 [(0, .ref (ad 0)), (1, .int x1), (2, .int x2), (3, .int x3), (4, .int x4), (5, .int x5), (6, .int x6)] → mX8_makeSpans_78 k31 M x1 x2 x3 x4 x5 x6 = some r0 → W p l e (gR 5 120) s m args below meth c H locs 0 0 (MQ below (gQv shR D cy ad r0) args s 0 0 (gA shR ad)) (F0 m 78 ls []) := by
  intro M H locs C x1 x2 x3 x4 x5 x6 ls hl hm
  rw [mX8_makeSpans_78] at hm
  refine lv_aload_n S.1 S.2.1 dX8_makeSpans_78 rfl (lv_at hl 0 rfl) ?_
  refine g_get (k := 0) (ci := 7) (f := 5) (v := .ref (ad 5))  S C kiX8_makeSpans_X8 kfX8_makeSpans_23 rfl (by decide) shR_0 rfl rfl dX8_makeSpans_79 ?_
  refine lv_iload S.1 S.2.1 dX8_makeSpans_82 (lv_at hl 4 rfl) ?_
  refine lv_aload_n S.1 S.2.1 dX8_makeSpans_84 rfl (lv_at hl 0 rfl) ?_
  refine g_get (k := 0) (ci := 7) (f := 5) (v := .ref (ad 5))  S C kiX8_makeSpans_X8 kfX8_makeSpans_23 rfl (by decide) shR_0 rfl rfl dX8_makeSpans_85 ?_
  refine lv_iload S.1 S.2.1 dX8_makeSpans_88 (lv_at hl 5 rfl) ?_
  obtain ⟨h1, hm⟩ := ck_ok hm
  refine g_lald S C (k := 5) shR_5 h1 dX8_makeSpans_90 ?_
  obtain ⟨h2, hm⟩ := ck_ok hm
  obtain ⟨M3, eM3, hm⟩ := nmd_ok hm
  refine g_last S C (k := 5) shR_5 h2 dX8_makeSpans_91 (fun H locs C => ?_)
  rw [← eM3] at C
  refine lv_aload_n S.1 S.2.1 dX8_makeSpans_92 rfl (lv_at hl 0 rfl) ?_
  refine g_get (k := 0) (ci := 7) (f := 6) (v := .ref (ad 6))  S C kiX8_makeSpans_X8 kfX8_makeSpans_26 rfl (by decide) shR_0 rfl rfl dX8_makeSpans_93 ?_
  refine lv_iload S.1 S.2.1 dX8_makeSpans_96 (lv_at hl 4 rfl) ?_
  refine lv_iload S.1 S.2.1 dX8_makeSpans_98 (lv_at hl 6 rfl) ?_
  obtain ⟨h4, hm⟩ := ck_ok hm
  obtain ⟨M5, eM5, hm⟩ := nmd_ok hm
  refine g_iast S C (k := 6) shR_6 h4 dX8_makeSpans_100 (fun H locs C => ?_)
  rw [← eM5] at C
  obtain ⟨y6, ey6, hm⟩ := nmd_ok hm
  refine lv_iinc (v := y6) (lv' := [(4, .int y6), (0, .ref (ad 0)), (1, .int x1), (2, .int x2), (3, .int x3), (5, .int x5), (6, .int x6)]) S.1 S.2.1 dX8_makeSpans_101 hl (k := 4) rfl (by rw [ey6]; rfl) (by decide) rfl (fun ls hl => ?_)
  obtain ⟨y7, ey7, hm⟩ := nmd_ok hm
  refine lv_iinc (v := y7) (lv' := [(5, .int y7), (4, .int y6), (0, .ref (ad 0)), (1, .int x1), (2, .int x2), (3, .int x3), (6, .int x6)]) S.1 S.2.1 dX8_makeSpans_104 hl (k := 5) rfl (by rw [ey7]; rfl) (by decide) rfl (fun ls hl => ?_)
  refine lv_goto (tgt := 31) S.1 S.2.1 dX8_makeSpans_107 (by decide) ?_
  exact kk31 M5 _ _ C x1 x2 x3 y6 y7 ls (lv_sub hl [2, 3, 4, 5, 1, 0] rfl) hm
set_option maxHeartbeats 4000000 in
set_option maxRecDepth 100000 in
theorem wX8_makeSpans_31 {p : Program} {l : Launch} {e : Env} {s : State} {m : MethodId} {args : Array Value} {below : List Frame} {meth : Method} {c : Code} {D : va_G} {cy : gCy} {ad : Nat → Nat} {r0 : gMem} (S : CallFix p m c cX8_makeSpans 7 s args wsX8_makeSpans RX8) (hr : meth.sig.returnType = none) (hlk : meth.locks = false) : ∀ (n : Nat), ∀ (M : gMem) (H : Heap) (locs : List Loc), gW shR D cy ad s s.heap M H locs → ∀ (x1 : Int32) (x2 : Int32) (x3 : Int32) (x4 : Int32) (x5 : Int32), ∀ (ls : Array Slot), lv_has ls 7 [(0, .ref (ad 0)), (1, .int x1), (2, .int x2), (3, .int x3), (4, .int x4), (5, .int x5)] → mX8_makeSpans_31 n M x1 x2 x3 x4 x5 = some r0 → W p l e (gR 5 120) s m args below meth c H locs 0 0 (MQ below (gQv shR D cy ad r0) args s 0 0 (gA shR ad)) (F0 m 31 ls []) := by
  intro n
  induction n with
  | zero => intro M H locs C x1 x2 x3 x4 x5 ls hl hm; exact absurd hm (by simp [mX8_makeSpans_31])
  | succ n ih =>
    intro M H locs C x1 x2 x3 x4 x5 ls hl hm
    rw [mX8_makeSpans_31] at hm
    refine lv_iload S.1 S.2.1 dX8_makeSpans_31 (lv_at hl 5 rfl) ?_
    refine lv_aload_n S.1 S.2.1 dX8_makeSpans_33 rfl (lv_at hl 0 rfl) ?_
    refine g_get (k := 0) (ci := 7) (f := 4) (v := .int (M.1 0 4))  S C kiX8_makeSpans_X8 kfX8_makeSpans_139 rfl (by decide) shR_0 rfl rfl dX8_makeSpans_34 ?_
    refine lv_icmp_ge (tgt := 110) S.1 S.2.1 dX8_makeSpans_37 (by decide) (fun c1 => ?_) (fun c1 => ?_)
    · rw [if_pos c1] at hm
      refine lv_aload_n S.1 S.2.1 dX8_makeSpans_110 rfl (lv_at hl 0 rfl) ?_
      refine lv_iload S.1 S.2.1 dX8_makeSpans_111 (lv_at hl 4 rfl) ?_
      obtain ⟨M2, eM2, hm⟩ := nmd_ok hm
      refine g_put (M' := (sI M 0 4 x4)) (k := 0) (ci := 7) (f := 4) (v := .int x4) (ty := .int) S C kiX8_makeSpans_X8 tyX8 tyX8_ok nmX8 kfX8_makeSpans_139 rfl (by decide) rfl (by decide +kernel) rfl rfl shR_0 rfl (Nat.le_of_ble_eq_true rfl) (by rw [sI_at]; rfl) sI_off dX8_makeSpans_113 (fun H locs C => ?_)
      rw [← eM2] at C
      exact gRetv S hr hlk C (Option.some.inj hm) dX8_makeSpans_116
    · rw [if_neg c1] at hm
      refine lv_aload_n S.1 S.2.1 dX8_makeSpans_40 rfl (lv_at hl 0 rfl) ?_
      refine lv_iload_n S.1 S.2.1 dX8_makeSpans_41 rfl (lv_at hl 1 rfl) ?_
      refine lv_iload_n S.1 S.2.1 dX8_makeSpans_42 rfl (lv_at hl 2 rfl) ?_
      refine lv_iload_n S.1 S.2.1 dX8_makeSpans_43 rfl (lv_at hl 3 rfl) ?_
      refine lv_aload_n S.1 S.2.1 dX8_makeSpans_44 rfl (lv_at hl 0 rfl) ?_
      refine g_get (k := 0) (ci := 7) (f := 5) (v := .ref (ad 5))  S C kiX8_makeSpans_X8 kfX8_makeSpans_23 rfl (by decide) shR_0 rfl rfl dX8_makeSpans_45 ?_
      refine lv_iload S.1 S.2.1 dX8_makeSpans_48 (lv_at hl 5 rfl) ?_
      obtain ⟨h3, hm⟩ := ck_ok hm
      refine g_lald S C (k := 5) shR_5 h3 dX8_makeSpans_50 ?_
      obtain ⟨r4, hcr4, hm⟩ := bd_ok hm
      refine gC_i C (gRV (k := 0) (ci := 7) (r := (RX8, TX8, 34)) (As := [.int x1, .int x2, .int x3, .long (M.2 5 x5.toNatClampNeg)]) (rest := []) 4 S C (c_X8_leads_ l D cy ad M x1 x2 x3 (M.2 5 x5.toNatClampNeg) r4 hcr4) gX8_makeSpans_X8_leads_ rfl (by decide +kernel) (by decide) shR_0 rfl rfl rfl hl.1 rfl (Nat.le_of_ble_eq_true rfl) dX8_makeSpans_51) (fun H locs C => ?_)
      refine lv_istore (lv' := [(6, .int r4), (0, .ref (ad 0)), (1, .int x1), (2, .int x2), (3, .int x3), (4, .int x4), (5, .int x5)]) S.1 S.2.1 dX8_makeSpans_54 hl (by decide) rfl (fun ls hl => ?_)
      refine lv_iload S.1 S.2.1 dX8_makeSpans_56 (lv_at hl 5 rfl) ?_
      refine lv_if_le (tgt := 78) S.1 S.2.1 dX8_makeSpans_58 (by decide) (fun c5 => ?_) (fun c5 => ?_)
      · rw [if_pos c5] at hm
        exact wX8_makeSpans_78 S hr hlk ih M _ _ C x1 x2 x3 x4 x5 r4 ls (lv_sub hl [1, 2, 3, 4, 5, 6, 0] rfl) hm
      · rw [if_neg c5] at hm
        refine lv_aload_n S.1 S.2.1 dX8_makeSpans_61 rfl (lv_at hl 1 rfl) ?_
        refine g_get (k := 0) (ci := 7) (f := 6) (v := .ref (ad 6))  S C kiX8_makeSpans_X8 kfX8_makeSpans_26 rfl (by decide) shR_0 rfl rfl dX8_makeSpans_62 ?_
        refine lv_iload S.1 S.2.1 dX8_makeSpans_65 (lv_at hl 5 rfl) ?_
        refine lv_iconst (v := (1 : Int32)) S.1 S.2.1 dX8_makeSpans_67 (by decide) ?_
        refine lv_isub S.1 S.2.1 dX8_makeSpans_68 ?_
        obtain ⟨h6, hm⟩ := ck_ok hm
        refine g_iald S C (k := 6) shR_6 h6 dX8_makeSpans_69 ?_
        refine lv_iload S.1 S.2.1 dX8_makeSpans_70 (lv_at hl 0 rfl) ?_
        refine lv_icmp_ne (tgt := 78) S.1 S.2.1 dX8_makeSpans_72 (by decide) (fun c7 => ?_) (fun c7 => ?_)
        · rw [if_neg c7] at hm
          exact wX8_makeSpans_78 S hr hlk ih M _ _ C x1 x2 x3 x4 x5 r4 ls (lv_sub hl [1, 2, 3, 4, 5, 6, 0] rfl) hm
        · rw [if_pos c7] at hm
          refine lv_goto (tgt := 104) S.1 S.2.1 dX8_makeSpans_75 (by decide) ?_
          obtain ⟨y8, ey8, hm⟩ := nmd_ok hm
          refine lv_iinc (v := y8) (lv' := [(5, .int y8), (6, .int r4), (0, .ref (ad 0)), (1, .int x1), (2, .int x2), (3, .int x3), (4, .int x4)]) S.1 S.2.1 dX8_makeSpans_104 hl (k := 6) rfl (by rw [ey8]; rfl) (by decide) rfl (fun ls hl => ?_)
          refine lv_goto (tgt := 31) S.1 S.2.1 dX8_makeSpans_107 (by decide) ?_
          exact ih M _ _ C x1 x2 x3 x4 y8 ls (lv_sub hl [2, 3, 4, 5, 6, 0] rfl) hm
set_option maxHeartbeats 4000000 in
set_option maxRecDepth 100000 in
theorem c_X8_makeSpans (l : Launch) (D : va_G) (cy : gCy) (ad : Nat → Nat) (M : gMem) (x1 : Int32) (x2 : Int32) (x3 : Int32) (r0 : gMem) (hm : mX8_makeSpans M x1 x2 x3 = some r0) : Met l yX8_makeSpans wsX8_makeSpans (gR 5 120) (va_Pc [.ref (ad 0), .int x1, .int x2, .int x3] (gP shR D cy ad M)) (gQv shR D cy ad r0) 0 0 (gA shR ad) := by
  refine gEnter (cc := cX8_makeSpans) (maxL := 7) (ret := none) (by decide) rfl (Nat.le_of_ble_eq_true rfl) ?_
  intro p e s m below meth c ls S hr hlk C hl
  have S : CallFix p m c cX8_makeSpans 7 s _ wsX8_makeSpans RX8 := S
  have hl : lv_has ls 7 [(0, .ref (ad 0)), (1, .int x1), (2, .int x2), (3, .int x3)] := hl
  rw [mX8_makeSpans] at hm
  refine lv_aload_n S.1 S.2.1 dX8_makeSpans_0 rfl (lv_at hl 0 rfl) ?_
  refine lv_iconst (v := (0 : Int32)) S.1 S.2.1 dX8_makeSpans_1 (by decide) ?_
  obtain ⟨M1, eM1, hm⟩ := nmd_ok hm
  refine g_put (M' := (sI M 0 4 (0 : Int32))) (k := 0) (ci := 7) (f := 4) (v := .int (0 : Int32)) (ty := .int) S C kiX8_makeSpans_X8 tyX8 tyX8_ok nmX8 kfX8_makeSpans_139 rfl (by decide) rfl (by decide +kernel) rfl rfl shR_0 rfl (Nat.le_of_ble_eq_true rfl) (by rw [sI_at]; rfl) sI_off dX8_makeSpans_2 (fun H locs C => ?_)
  rw [← eM1] at C
  refine lv_aload_n S.1 S.2.1 dX8_makeSpans_5 rfl (lv_at hl 0 rfl) ?_
  refine lv_lconst (v := (0 : Int64)) S.1 S.2.1 dX8_makeSpans_6 (by decide) ?_
  obtain ⟨r2, hcr2, hm⟩ := bd_ok hm
  refine gC_v C (gRV (k := 0) (ci := 7) (r := (RX8, TX8, 34)) (As := [.long (0 : Int64)]) (rest := []) 1 S C (c_X8_cuts l D cy ad M1 (0 : Int64) r2 hcr2) gX8_makeSpans_X8_cuts rfl (by decide +kernel) (by decide) shR_0 rfl rfl rfl hl.1 rfl (Nat.le_of_ble_eq_true rfl) dX8_makeSpans_7) (fun H locs C => ?_)
  refine lv_aload_n S.1 S.2.1 dX8_makeSpans_10 rfl (lv_at hl 0 rfl) ?_
  refine lv_iload_n S.1 S.2.1 dX8_makeSpans_11 rfl (lv_at hl 2 rfl) ?_
  obtain ⟨r3, hcr3, hm⟩ := bd_ok hm
  refine gC_v C (gRV (k := 0) (ci := 7) (r := (RX8, TX8, 34)) (As := [.int x2]) (rest := []) 1 S C (c_X8_cutsOf l D cy ad r2 x2 r3 hcr3) gX8_makeSpans_X8_cutsOf rfl (by decide +kernel) (by decide) shR_0 rfl rfl rfl hl.1 rfl (Nat.le_of_ble_eq_true rfl) dX8_makeSpans_12) (fun H locs C => ?_)
  refine lv_iload_n S.1 S.2.1 dX8_makeSpans_15 rfl (lv_at hl 1 rfl) ?_
  refine lv_iconst (v := (3 : Int32)) S.1 S.2.1 dX8_makeSpans_16 (by decide) ?_
  refine lv_icmp_eq (tgt := 25) S.1 S.2.1 dX8_makeSpans_17 (by decide) (fun c4 => ?_) (fun c4 => ?_)
  · rw [if_pos c4] at hm
    refine lv_iconst (v := (0 : Int32)) S.1 S.2.1 dX8_makeSpans_25 (by decide) ?_
    refine lv_istore (lv' := [(4, .int (0 : Int32)), (0, .ref (ad 0)), (1, .int x1), (2, .int x2), (3, .int x3)]) S.1 S.2.1 dX8_makeSpans_26 hl (by decide) rfl (fun ls hl => ?_)
    refine lv_iconst (v := (0 : Int32)) S.1 S.2.1 dX8_makeSpans_28 (by decide) ?_
    refine lv_istore (lv' := [(5, .int (0 : Int32)), (4, .int (0 : Int32)), (0, .ref (ad 0)), (1, .int x1), (2, .int x2), (3, .int x3)]) S.1 S.2.1 dX8_makeSpans_29 hl (by decide) rfl (fun ls hl => ?_)
    exact wX8_makeSpans_31 S hr hlk FU r3 _ _ C x1 x2 x3 (0 : Int32) (0 : Int32) ls (lv_sub hl [2, 3, 4, 5, 1, 0] rfl) hm
  · rw [if_neg c4] at hm
    refine lv_aload_n S.1 S.2.1 dX8_makeSpans_20 rfl (lv_at hl 0 rfl) ?_
    refine lv_iload_n S.1 S.2.1 dX8_makeSpans_21 rfl (lv_at hl 3 rfl) ?_
    obtain ⟨r5, hcr5, hm⟩ := bd_ok hm
    refine gC_v C (gRV (k := 0) (ci := 7) (r := (RX8, TX8, 34)) (As := [.int x3]) (rest := []) 1 S C (c_X8_cutsOf l D cy ad r3 x3 r5 hcr5) gX8_makeSpans_X8_cutsOf rfl (by decide +kernel) (by decide) shR_0 rfl rfl rfl hl.1 rfl (Nat.le_of_ble_eq_true rfl) dX8_makeSpans_22) (fun H locs C => ?_)
    refine lv_iconst (v := (0 : Int32)) S.1 S.2.1 dX8_makeSpans_25 (by decide) ?_
    refine lv_istore (lv' := [(4, .int (0 : Int32)), (0, .ref (ad 0)), (1, .int x1), (2, .int x2), (3, .int x3)]) S.1 S.2.1 dX8_makeSpans_26 hl (by decide) rfl (fun ls hl => ?_)
    refine lv_iconst (v := (0 : Int32)) S.1 S.2.1 dX8_makeSpans_28 (by decide) ?_
    refine lv_istore (lv' := [(5, .int (0 : Int32)), (4, .int (0 : Int32)), (0, .ref (ad 0)), (1, .int x1), (2, .int x2), (3, .int x3)]) S.1 S.2.1 dX8_makeSpans_29 hl (by decide) rfl (fun ls hl => ?_)
    exact wX8_makeSpans_31 S hr hlk FU r5 _ _ C x1 x2 x3 (0 : Int32) (0 : Int32) ls (lv_sub hl [2, 3, 4, 5, 1, 0] rfl) hm
def mX8_end (M : gMem) (x1 : Int32) : Option Int64 := if (M.1 0 4) ≤ (x1 + (1 : Int32)) then (some (4294967296 : Int64)) else (ck (inb (x1 + (1 : Int32)) 600) <| some (M.2 5 (x1 + (1 : Int32)).toNatClampNeg))
set_option maxHeartbeats 4000000 in
set_option maxRecDepth 100000 in
theorem c_X8_end (l : Launch) (D : va_G) (cy : gCy) (ad : Nat → Nat) (M : gMem) (x1 : Int32) (r0 : Int64) (hm : mX8_end M x1 = some r0) : Met l yX8_end wsX8_end (gR 0 0) (va_Pc [.ref (ad 0), .int x1] (gP shR D cy ad M)) (gQl shR D cy ad r0 M) 0 0 (gA shR ad) := by
  refine gEnter (cc := cX8_end) (maxL := 2) (ret := (some .long)) (by decide) rfl (Nat.le_of_ble_eq_true rfl) ?_
  intro p e s m below meth c ls S hr hlk C hl
  have S : CallFix p m c cX8_end 2 s _ wsX8_end RX8 := S
  have hl : lv_has ls 2 [(0, .ref (ad 0)), (1, .int x1)] := hl
  rw [mX8_end] at hm
  refine lv_iload_n S.1 S.2.1 dX8_end_0 rfl (lv_at hl 1 rfl) ?_
  refine lv_iconst (v := (1 : Int32)) S.1 S.2.1 dX8_end_1 (by decide) ?_
  refine lv_iadd S.1 S.2.1 dX8_end_2 ?_
  refine lv_aload_n S.1 S.2.1 dX8_end_3 rfl (lv_at hl 0 rfl) ?_
  refine g_get (k := 0) (ci := 7) (f := 4) (v := .int (M.1 0 4))  S C kiX8_end_X8 kfX8_end_139 rfl (by decide) shR_0 rfl rfl dX8_end_4 ?_
  refine lv_icmp_ge (tgt := 21) S.1 S.2.1 dX8_end_7 (by decide) (fun c1 => ?_) (fun c1 => ?_)
  · rw [if_pos c1] at hm
    refine lv_ldc2 (v := (4294967296 : Int64)) S.1 S.2.1 S.2.2.2.1 (S.2.2.2.2 _ kcX8_end_137) dX8_end_21 ?_
    exact gRetl S hr hlk C (Option.some.inj hm) rfl dX8_end_24
  · rw [if_neg c1] at hm
    refine lv_aload_n S.1 S.2.1 dX8_end_10 rfl (lv_at hl 0 rfl) ?_
    refine g_get (k := 0) (ci := 7) (f := 5) (v := .ref (ad 5))  S C kiX8_end_X8 kfX8_end_23 rfl (by decide) shR_0 rfl rfl dX8_end_11 ?_
    refine lv_iload_n S.1 S.2.1 dX8_end_14 rfl (lv_at hl 1 rfl) ?_
    refine lv_iconst (v := (1 : Int32)) S.1 S.2.1 dX8_end_15 (by decide) ?_
    refine lv_iadd S.1 S.2.1 dX8_end_16 ?_
    obtain ⟨h2, hm⟩ := ck_ok hm
    refine g_lald S C (k := 5) shR_5 h2 dX8_end_17 ?_
    refine lv_goto (tgt := 24) S.1 S.2.1 dX8_end_18 (by decide) ?_
    exact gRetl S hr hlk C (Option.some.inj hm) rfl dX8_end_24
def mX8_spans (M : gMem) (x1 : Int32) : Option (Int32 × gMem) := (mX8_isBook x1).bind fun r1 => if r1 = 0 then (some ((-1 : Int32), M)) else ((mX8_makeSpans M (3 : Int32) x1 x1).bind fun r3 => some ((r3.1 0 4), r3))
set_option maxHeartbeats 4000000 in
set_option maxRecDepth 100000 in
theorem c_X8_spans (l : Launch) (D : va_G) (cy : gCy) (ad : Nat → Nat) (M : gMem) (x1 : Int32) (r0 : (Int32 × gMem)) (hm : mX8_spans M x1 = some r0) : Met l yX8_spans wsX8_spans (gR 6 146) (va_Pc [.ref (ad 0), .int x1] (gP shR D cy ad M)) (gQi shR D cy ad r0.1 r0.2) 0 0 (gA shR ad) := by
  refine gEnter (cc := cX8_spans) (maxL := 2) (ret := (some .int)) (by decide) rfl (Nat.le_of_ble_eq_true rfl) ?_
  intro p e s m below meth c ls S hr hlk C hl
  have S : CallFix p m c cX8_spans 2 s _ wsX8_spans RX8 := S
  have hl : lv_has ls 2 [(0, .ref (ad 0)), (1, .int x1)] := hl
  rw [mX8_spans] at hm
  refine lv_iload_n S.1 S.2.1 dX8_spans_0 rfl (lv_at hl 1 rfl) ?_
  obtain ⟨r1, hcr1, hm⟩ := bd_ok hm
  refine gC_i C (gRS (As := [.int x1]) (rest := []) 1 S C (c_X8_isBook l D cy ad M x1 r1 hcr1) gX8_spans_X8_isBook rfl (by decide +kernel) (by decide) rfl hl.1 rfl (Nat.le_of_ble_eq_true rfl) dX8_spans_1) (fun H locs C => ?_)
  refine lv_if_ne (tgt := 9) S.1 S.2.1 dX8_spans_4 (by decide) (fun c2 => ?_) (fun c2 => ?_)
  · rw [if_neg c2] at hm
    refine lv_aload_n S.1 S.2.1 dX8_spans_9 rfl (lv_at hl 0 rfl) ?_
    refine lv_iconst (v := (3 : Int32)) S.1 S.2.1 dX8_spans_10 (by decide) ?_
    refine lv_iload_n S.1 S.2.1 dX8_spans_11 rfl (lv_at hl 1 rfl) ?_
    refine lv_iload_n S.1 S.2.1 dX8_spans_12 rfl (lv_at hl 1 rfl) ?_
    obtain ⟨r3, hcr3, hm⟩ := bd_ok hm
    refine gC_v C (gRV (k := 0) (ci := 7) (r := (RX8, TX8, 34)) (As := [.int (3 : Int32), .int x1, .int x1]) (rest := []) 3 S C (c_X8_makeSpans l D cy ad M (3 : Int32) x1 x1 r3 hcr3) gX8_spans_X8_makeSpans rfl (by decide +kernel) (by decide) shR_0 rfl rfl rfl hl.1 rfl (Nat.le_of_ble_eq_true rfl) dX8_spans_13) (fun H locs C => ?_)
    refine lv_aload_n S.1 S.2.1 dX8_spans_16 rfl (lv_at hl 0 rfl) ?_
    refine g_get (k := 0) (ci := 7) (f := 4) (v := .int (r3.1 0 4))  S C kiX8_spans_X8 kfX8_spans_139 rfl (by decide) shR_0 rfl rfl dX8_spans_17 ?_
    exact gReti S hr hlk C (pr1 hm) (pr2 hm) dX8_spans_20
  · rw [if_pos c2] at hm
    refine lv_iconst (v := (-1 : Int32)) S.1 S.2.1 dX8_spans_7 (by decide) ?_
    exact gReti S hr hlk C (pr1 hm) (pr2 hm) dX8_spans_8
def mX8_span (M : gMem) (x1 : Int32) (x2 : Int32) (x3 : Int32) : Option (Int64 × gMem) := (mX8_isBook x1).bind fun r1 => if r1 = 0 then (some ((-1 : Int64), M)) else ((mX8_makeSpans M (3 : Int32) x1 x1).bind fun r3 => (mX8_lies x2 (0 : Int32) ((r3.1 0 4) - (1 : Int32))).bind fun r4 => if r4 = 0 then (some ((-1 : Int64), r3)) else (if x3 = 0 then (ck (inb x2 600) <| some ((r3.2 5 x2.toNatClampNeg), r3)) else (if x3 = (1 : Int32) then ((mX8_end r3 x2).bind fun r10 => some ((r10 - (1 : Int64)), r3)) else (if x3 = (2 : Int32) then (ck (inb x2 600) <| some (((r3.1 6 x2.toNatClampNeg).toInt64), r3)) else (some ((-1 : Int64), r3))))))
set_option maxHeartbeats 4000000 in
set_option maxRecDepth 100000 in
theorem c_X8_span (l : Launch) (D : va_G) (cy : gCy) (ad : Nat → Nat) (M : gMem) (x1 : Int32) (x2 : Int32) (x3 : Int32) (r0 : (Int64 × gMem)) (hm : mX8_span M x1 x2 x3 = some r0) : Met l yX8_span wsX8_span (gR 6 146) (va_Pc [.ref (ad 0), .int x1, .int x2, .int x3] (gP shR D cy ad M)) (gQl shR D cy ad r0.1 r0.2) 0 0 (gA shR ad) := by
  refine gEnter (cc := cX8_span) (maxL := 4) (ret := (some .long)) (by decide) rfl (Nat.le_of_ble_eq_true rfl) ?_
  intro p e s m below meth c ls S hr hlk C hl
  have S : CallFix p m c cX8_span 4 s _ wsX8_span RX8 := S
  have hl : lv_has ls 4 [(0, .ref (ad 0)), (1, .int x1), (2, .int x2), (3, .int x3)] := hl
  rw [mX8_span] at hm
  refine lv_iload_n S.1 S.2.1 dX8_span_0 rfl (lv_at hl 1 rfl) ?_
  obtain ⟨r1, hcr1, hm⟩ := bd_ok hm
  refine gC_i C (gRS (As := [.int x1]) (rest := []) 1 S C (c_X8_isBook l D cy ad M x1 r1 hcr1) gX8_span_X8_isBook rfl (by decide +kernel) (by decide) rfl hl.1 rfl (Nat.le_of_ble_eq_true rfl) dX8_span_1) (fun H locs C => ?_)
  refine lv_if_ne (tgt := 11) S.1 S.2.1 dX8_span_4 (by decide) (fun c2 => ?_) (fun c2 => ?_)
  · rw [if_neg c2] at hm
    refine lv_aload_n S.1 S.2.1 dX8_span_11 rfl (lv_at hl 0 rfl) ?_
    refine lv_iconst (v := (3 : Int32)) S.1 S.2.1 dX8_span_12 (by decide) ?_
    refine lv_iload_n S.1 S.2.1 dX8_span_13 rfl (lv_at hl 1 rfl) ?_
    refine lv_iload_n S.1 S.2.1 dX8_span_14 rfl (lv_at hl 1 rfl) ?_
    obtain ⟨r3, hcr3, hm⟩ := bd_ok hm
    refine gC_v C (gRV (k := 0) (ci := 7) (r := (RX8, TX8, 34)) (As := [.int (3 : Int32), .int x1, .int x1]) (rest := []) 3 S C (c_X8_makeSpans l D cy ad M (3 : Int32) x1 x1 r3 hcr3) gX8_span_X8_makeSpans rfl (by decide +kernel) (by decide) shR_0 rfl rfl rfl hl.1 rfl (Nat.le_of_ble_eq_true rfl) dX8_span_15) (fun H locs C => ?_)
    refine lv_iload_n S.1 S.2.1 dX8_span_18 rfl (lv_at hl 2 rfl) ?_
    refine lv_iconst (v := (0 : Int32)) S.1 S.2.1 dX8_span_19 (by decide) ?_
    refine lv_aload_n S.1 S.2.1 dX8_span_20 rfl (lv_at hl 0 rfl) ?_
    refine g_get (k := 0) (ci := 7) (f := 4) (v := .int (r3.1 0 4))  S C kiX8_span_X8 kfX8_span_139 rfl (by decide) shR_0 rfl rfl dX8_span_21 ?_
    refine lv_iconst (v := (1 : Int32)) S.1 S.2.1 dX8_span_24 (by decide) ?_
    refine lv_isub S.1 S.2.1 dX8_span_25 ?_
    obtain ⟨r4, hcr4, hm⟩ := bd_ok hm
    refine gC_i C (gRS (As := [.int x2, .int (0 : Int32), .int ((r3.1 0 4) - (1 : Int32))]) (rest := []) 3 S C (c_X8_lies l D cy ad r3 x2 (0 : Int32) ((r3.1 0 4) - (1 : Int32)) r4 hcr4) gX8_span_X8_lies rfl (by decide +kernel) (by decide) rfl hl.1 rfl (Nat.le_of_ble_eq_true rfl) dX8_span_26) (fun H locs C => ?_)
    refine lv_if_ne (tgt := 36) S.1 S.2.1 dX8_span_29 (by decide) (fun c5 => ?_) (fun c5 => ?_)
    · rw [if_neg c5] at hm
      refine lv_iload_n S.1 S.2.1 dX8_span_36 rfl (lv_at hl 3 rfl) ?_
      refine lv_if_ne (tgt := 49) S.1 S.2.1 dX8_span_37 (by decide) (fun c6 => ?_) (fun c6 => ?_)
      · rw [if_neg c6] at hm
        refine lv_iload_n S.1 S.2.1 dX8_span_49 rfl (lv_at hl 3 rfl) ?_
        refine lv_iconst (v := (1 : Int32)) S.1 S.2.1 dX8_span_50 (by decide) ?_
        refine lv_icmp_ne (tgt := 64) S.1 S.2.1 dX8_span_51 (by decide) (fun c7 => ?_) (fun c7 => ?_)
        · rw [if_neg c7] at hm
          refine lv_iload_n S.1 S.2.1 dX8_span_64 rfl (lv_at hl 3 rfl) ?_
          refine lv_iconst (v := (2 : Int32)) S.1 S.2.1 dX8_span_65 (by decide) ?_
          refine lv_icmp_ne (tgt := 79) S.1 S.2.1 dX8_span_66 (by decide) (fun c8 => ?_) (fun c8 => ?_)
          · rw [if_neg c8] at hm
            refine lv_ldc2 (v := (-1 : Int64)) S.1 S.2.1 S.2.2.2.1 (S.2.2.2.2 _ kcX8_span_124) dX8_span_79 ?_
            exact gRetl S hr hlk C (pr1 hm) (pr2 hm) dX8_span_82
          · rw [if_pos c8] at hm
            refine lv_aload_n S.1 S.2.1 dX8_span_69 rfl (lv_at hl 0 rfl) ?_
            refine g_get (k := 0) (ci := 7) (f := 6) (v := .ref (ad 6))  S C kiX8_span_X8 kfX8_span_26 rfl (by decide) shR_0 rfl rfl dX8_span_70 ?_
            refine lv_iload_n S.1 S.2.1 dX8_span_73 rfl (lv_at hl 2 rfl) ?_
            obtain ⟨h9, hm⟩ := ck_ok hm
            refine g_iald S C (k := 6) shR_6 h9 dX8_span_74 ?_
            refine lv_i2l (v := (r3.1 6 x2.toNatClampNeg).toInt64) S.1 S.2.1 dX8_span_75 rfl ?_
            refine lv_goto (tgt := 82) S.1 S.2.1 dX8_span_76 (by decide) ?_
            exact gRetl S hr hlk C (pr1 hm) (pr2 hm) dX8_span_82
        · rw [if_pos c7] at hm
          refine lv_aload_n S.1 S.2.1 dX8_span_54 rfl (lv_at hl 0 rfl) ?_
          refine lv_iload_n S.1 S.2.1 dX8_span_55 rfl (lv_at hl 2 rfl) ?_
          obtain ⟨r10, hcr10, hm⟩ := bd_ok hm
          refine gC_l C (gRV (k := 0) (ci := 7) (r := (RX8, TX8, 34)) (As := [.int x2]) (rest := []) 1 S C (c_X8_end l D cy ad r3 x2 r10 hcr10) gX8_span_X8_end rfl (by decide +kernel) (by decide) shR_0 rfl rfl rfl hl.1 rfl (Nat.le_of_ble_eq_true rfl) dX8_span_56) (fun H locs C => ?_)
          refine lv_lconst (v := (1 : Int64)) S.1 S.2.1 dX8_span_59 (by decide) ?_
          refine lv_lsub S.1 S.2.1 dX8_span_60 ?_
          refine lv_goto (tgt := 82) S.1 S.2.1 dX8_span_61 (by decide) ?_
          exact gRetl S hr hlk C (pr1 hm) (pr2 hm) dX8_span_82
      · rw [if_pos c6] at hm
        refine lv_aload_n S.1 S.2.1 dX8_span_40 rfl (lv_at hl 0 rfl) ?_
        refine g_get (k := 0) (ci := 7) (f := 5) (v := .ref (ad 5))  S C kiX8_span_X8 kfX8_span_23 rfl (by decide) shR_0 rfl rfl dX8_span_41 ?_
        refine lv_iload_n S.1 S.2.1 dX8_span_44 rfl (lv_at hl 2 rfl) ?_
        obtain ⟨h11, hm⟩ := ck_ok hm
        refine g_lald S C (k := 5) shR_5 h11 dX8_span_45 ?_
        refine lv_goto (tgt := 82) S.1 S.2.1 dX8_span_46 (by decide) ?_
        exact gRetl S hr hlk C (pr1 hm) (pr2 hm) dX8_span_82
    · rw [if_pos c5] at hm
      refine lv_ldc2 (v := (-1 : Int64)) S.1 S.2.1 S.2.2.2.1 (S.2.2.2.2 _ kcX8_span_124) dX8_span_32 ?_
      exact gRetl S hr hlk C (pr1 hm) (pr2 hm) dX8_span_35
  · rw [if_pos c2] at hm
    refine lv_ldc2 (v := (-1 : Int64)) S.1 S.2.1 S.2.2.2.1 (S.2.2.2.2 _ kcX8_span_124) dX8_span_7 ?_
    exact gRetl S hr hlk C (pr1 hm) (pr2 hm) dX8_span_10
def mX8_share_33 : Nat → gMem → Int32 → Int64 → Int32 → Option (Int64 × gMem)
  | 0, _, _, _, _ => none
  | n + 1, M, x2, x3, x5 => if (M.1 0 4) ≤ x5 then (some (x3, M)) else (ck (inb x5 600) <| if (M.1 6 x5.toNatClampNeg) = x2 then ((mX8_end M x5).bind fun r6 => ck (inb x5 600) <| nmd (x3 + (r6 - (M.2 5 x5.toNatClampNeg))) fun y8 => nmd (x5 + (1 : Int32)) fun y9 => mX8_share_33 n M x2 y8 y9) else (nmd (x3 + (0 : Int64)) fun y4 => nmd (x5 + (1 : Int32)) fun y5 => mX8_share_33 n M x2 y4 y5))
def mX8_share (M : gMem) (x1 : Int32) (x2 : Int32) : Option (Int64 × gMem) := (mX8_isBook x1).bind fun r1 => if r1 = 0 then (some ((-1 : Int64), M)) else ((mX8_lies x2 (0 : Int32) (16 : Int32)).bind fun r3 => if r3 = 0 then (some ((-1 : Int64), M)) else ((mX8_makeSpans M (3 : Int32) x1 x1).bind fun r5 => mX8_share_33 FU r5 x2 (0 : Int64) (0 : Int32)))
set_option maxHeartbeats 4000000 in
set_option maxRecDepth 100000 in
theorem wX8_share_33 {p : Program} {l : Launch} {e : Env} {s : State} {m : MethodId} {args : Array Value} {below : List Frame} {meth : Method} {c : Code} {D : va_G} {cy : gCy} {ad : Nat → Nat} {r0 : (Int64 × gMem)} (S : CallFix p m c cX8_share 6 s args wsX8_share RX8) (hr : meth.sig.returnType = (some .long)) (hlk : meth.locks = false) : ∀ (n : Nat), ∀ (M : gMem) (H : Heap) (locs : List Loc), gW shR D cy ad s s.heap M H locs → ∀ (x2 : Int32) (x3 : Int64) (x5 : Int32), ∀ (ls : Array Slot), lv_has ls 6 [(0, .ref (ad 0)), (2, .int x2), (3, .long x3), (5, .int x5)] → mX8_share_33 n M x2 x3 x5 = some r0 → W p l e (gR 6 146) s m args below meth c H locs 0 0 (MQ below (gQl shR D cy ad r0.1 r0.2) args s 0 0 (gA shR ad)) (F0 m 33 ls []) := by
  intro n
  induction n with
  | zero => intro M H locs C x2 x3 x5 ls hl hm; exact absurd hm (by simp [mX8_share_33])
  | succ n ih =>
    intro M H locs C x2 x3 x5 ls hl hm
    rw [mX8_share_33] at hm
    refine lv_iload S.1 S.2.1 dX8_share_33 (lv_at hl 3 rfl) ?_
    refine lv_aload_n S.1 S.2.1 dX8_share_35 rfl (lv_at hl 0 rfl) ?_
    refine g_get (k := 0) (ci := 7) (f := 4) (v := .int (M.1 0 4))  S C kiX8_share_X8 kfX8_share_139 rfl (by decide) shR_0 rfl rfl dX8_share_36 ?_
    refine lv_icmp_ge (tgt := 80) S.1 S.2.1 dX8_share_39 (by decide) (fun c1 => ?_) (fun c1 => ?_)
    · rw [if_pos c1] at hm
      refine lv_lload_n S.1 S.2.1 dX8_share_80 rfl (lv_at hl 2 rfl) ?_
      exact gRetl S hr hlk C (pr1 hm) (pr2 hm) dX8_share_81
    · rw [if_neg c1] at hm
      refine lv_lload_n S.1 S.2.1 dX8_share_42 rfl (lv_at hl 2 rfl) ?_
      refine lv_aload_n S.1 S.2.1 dX8_share_43 rfl (lv_at hl 0 rfl) ?_
      refine g_get (k := 0) (ci := 7) (f := 6) (v := .ref (ad 6))  S C kiX8_share_X8 kfX8_share_26 rfl (by decide) shR_0 rfl rfl dX8_share_44 ?_
      refine lv_iload S.1 S.2.1 dX8_share_47 (lv_at hl 3 rfl) ?_
      obtain ⟨h2, hm⟩ := ck_ok hm
      refine g_iald S C (k := 6) shR_6 h2 dX8_share_49 ?_
      refine lv_iload_n S.1 S.2.1 dX8_share_50 rfl (lv_at hl 1 rfl) ?_
      refine lv_icmp_ne (tgt := 71) S.1 S.2.1 dX8_share_51 (by decide) (fun c3 => ?_) (fun c3 => ?_)
      · rw [if_neg c3] at hm
        refine lv_lconst (v := (0 : Int64)) S.1 S.2.1 dX8_share_71 (by decide) ?_
        refine lv_ladd S.1 S.2.1 dX8_share_72 ?_
        obtain ⟨y4, ey4, hm⟩ := nmd_ok hm
        refine gNmJ ey4 ?_
        refine lv_lstore_n (lv' := [(3, .long y4), (0, .ref (ad 0)), (2, .int x2), (5, .int x5)]) S.1 S.2.1 dX8_share_73 rfl hl (by decide) rfl (fun ls hl => ?_)
        obtain ⟨y5, ey5, hm⟩ := nmd_ok hm
        refine lv_iinc (v := y5) (lv' := [(5, .int y5), (3, .long y4), (0, .ref (ad 0)), (2, .int x2)]) S.1 S.2.1 dX8_share_74 hl (k := 3) rfl (by rw [ey5]; rfl) (by decide) rfl (fun ls hl => ?_)
        refine lv_goto (tgt := 33) S.1 S.2.1 dX8_share_77 (by decide) ?_
        exact ih M _ _ C x2 y4 y5 ls (lv_sub hl [2, 3, 1, 0] rfl) hm
      · rw [if_pos c3] at hm
        refine lv_aload_n S.1 S.2.1 dX8_share_54 rfl (lv_at hl 0 rfl) ?_
        refine lv_iload S.1 S.2.1 dX8_share_55 (lv_at hl 3 rfl) ?_
        obtain ⟨r6, hcr6, hm⟩ := bd_ok hm
        refine gC_l C (gRV (k := 0) (ci := 7) (r := (RX8, TX8, 34)) (As := [.int x5]) (rest := [.long x3]) 1 S C (c_X8_end l D cy ad M x5 r6 hcr6) gX8_share_X8_end rfl (by decide +kernel) (by decide) shR_0 rfl rfl rfl hl.1 rfl (Nat.le_of_ble_eq_true rfl) dX8_share_57) (fun H locs C => ?_)
        refine lv_aload_n S.1 S.2.1 dX8_share_60 rfl (lv_at hl 0 rfl) ?_
        refine g_get (k := 0) (ci := 7) (f := 5) (v := .ref (ad 5))  S C kiX8_share_X8 kfX8_share_23 rfl (by decide) shR_0 rfl rfl dX8_share_61 ?_
        refine lv_iload S.1 S.2.1 dX8_share_64 (lv_at hl 3 rfl) ?_
        obtain ⟨h7, hm⟩ := ck_ok hm
        refine g_lald S C (k := 5) shR_5 h7 dX8_share_66 ?_
        refine lv_lsub S.1 S.2.1 dX8_share_67 ?_
        refine lv_goto (tgt := 72) S.1 S.2.1 dX8_share_68 (by decide) ?_
        refine lv_ladd S.1 S.2.1 dX8_share_72 ?_
        obtain ⟨y8, ey8, hm⟩ := nmd_ok hm
        refine gNmJ ey8 ?_
        refine lv_lstore_n (lv' := [(3, .long y8), (0, .ref (ad 0)), (2, .int x2), (5, .int x5)]) S.1 S.2.1 dX8_share_73 rfl hl (by decide) rfl (fun ls hl => ?_)
        obtain ⟨y9, ey9, hm⟩ := nmd_ok hm
        refine lv_iinc (v := y9) (lv' := [(5, .int y9), (3, .long y8), (0, .ref (ad 0)), (2, .int x2)]) S.1 S.2.1 dX8_share_74 hl (k := 3) rfl (by rw [ey9]; rfl) (by decide) rfl (fun ls hl => ?_)
        refine lv_goto (tgt := 33) S.1 S.2.1 dX8_share_77 (by decide) ?_
        exact ih M _ _ C x2 y8 y9 ls (lv_sub hl [2, 3, 1, 0] rfl) hm
set_option maxHeartbeats 4000000 in
set_option maxRecDepth 100000 in
theorem c_X8_share (l : Launch) (D : va_G) (cy : gCy) (ad : Nat → Nat) (M : gMem) (x1 : Int32) (x2 : Int32) (r0 : (Int64 × gMem)) (hm : mX8_share M x1 x2 = some r0) : Met l yX8_share wsX8_share (gR 6 146) (va_Pc [.ref (ad 0), .int x1, .int x2] (gP shR D cy ad M)) (gQl shR D cy ad r0.1 r0.2) 0 0 (gA shR ad) := by
  refine gEnter (cc := cX8_share) (maxL := 6) (ret := (some .long)) (by decide) rfl (Nat.le_of_ble_eq_true rfl) ?_
  intro p e s m below meth c ls S hr hlk C hl
  have S : CallFix p m c cX8_share 6 s _ wsX8_share RX8 := S
  have hl : lv_has ls 6 [(0, .ref (ad 0)), (1, .int x1), (2, .int x2)] := hl
  rw [mX8_share] at hm
  refine lv_iload_n S.1 S.2.1 dX8_share_0 rfl (lv_at hl 1 rfl) ?_
  obtain ⟨r1, hcr1, hm⟩ := bd_ok hm
  refine gC_i C (gRS (As := [.int x1]) (rest := []) 1 S C (c_X8_isBook l D cy ad M x1 r1 hcr1) gX8_share_X8_isBook rfl (by decide +kernel) (by decide) rfl hl.1 rfl (Nat.le_of_ble_eq_true rfl) dX8_share_1) (fun H locs C => ?_)
  refine lv_if_eq (tgt := 17) S.1 S.2.1 dX8_share_4 (by decide) (fun c2 => ?_) (fun c2 => ?_)
  · rw [if_pos c2] at hm
    refine lv_ldc2 (v := (-1 : Int64)) S.1 S.2.1 S.2.2.2.1 (S.2.2.2.2 _ kcX8_share_124) dX8_share_17 ?_
    exact gRetl S hr hlk C (pr1 hm) (pr2 hm) dX8_share_20
  · rw [if_neg c2] at hm
    refine lv_iload_n S.1 S.2.1 dX8_share_7 rfl (lv_at hl 2 rfl) ?_
    refine lv_iconst (v := (0 : Int32)) S.1 S.2.1 dX8_share_8 (by decide) ?_
    refine lv_bipush (v := (16 : Int32)) S.1 S.2.1 dX8_share_9 (by decide) ?_
    obtain ⟨r3, hcr3, hm⟩ := bd_ok hm
    refine gC_i C (gRS (As := [.int x2, .int (0 : Int32), .int (16 : Int32)]) (rest := []) 3 S C (c_X8_lies l D cy ad M x2 (0 : Int32) (16 : Int32) r3 hcr3) gX8_share_X8_lies rfl (by decide +kernel) (by decide) rfl hl.1 rfl (Nat.le_of_ble_eq_true rfl) dX8_share_11) (fun H locs C => ?_)
    refine lv_if_ne (tgt := 21) S.1 S.2.1 dX8_share_14 (by decide) (fun c4 => ?_) (fun c4 => ?_)
    · rw [if_neg c4] at hm
      refine lv_aload_n S.1 S.2.1 dX8_share_21 rfl (lv_at hl 0 rfl) ?_
      refine lv_iconst (v := (3 : Int32)) S.1 S.2.1 dX8_share_22 (by decide) ?_
      refine lv_iload_n S.1 S.2.1 dX8_share_23 rfl (lv_at hl 1 rfl) ?_
      refine lv_iload_n S.1 S.2.1 dX8_share_24 rfl (lv_at hl 1 rfl) ?_
      obtain ⟨r5, hcr5, hm⟩ := bd_ok hm
      refine gC_v C (gRV (k := 0) (ci := 7) (r := (RX8, TX8, 34)) (As := [.int (3 : Int32), .int x1, .int x1]) (rest := []) 3 S C (c_X8_makeSpans l D cy ad M (3 : Int32) x1 x1 r5 hcr5) gX8_share_X8_makeSpans rfl (by decide +kernel) (by decide) shR_0 rfl rfl rfl hl.1 rfl (Nat.le_of_ble_eq_true rfl) dX8_share_25) (fun H locs C => ?_)
      refine lv_lconst (v := (0 : Int64)) S.1 S.2.1 dX8_share_28 (by decide) ?_
      refine lv_lstore_n (lv' := [(3, .long (0 : Int64)), (0, .ref (ad 0)), (1, .int x1), (2, .int x2)]) S.1 S.2.1 dX8_share_29 rfl hl (by decide) rfl (fun ls hl => ?_)
      refine lv_iconst (v := (0 : Int32)) S.1 S.2.1 dX8_share_30 (by decide) ?_
      refine lv_istore (lv' := [(5, .int (0 : Int32)), (3, .long (0 : Int64)), (0, .ref (ad 0)), (1, .int x1), (2, .int x2)]) S.1 S.2.1 dX8_share_31 hl (by decide) rfl (fun ls hl => ?_)
      exact wX8_share_33 S hr hlk FU r5 _ _ C x2 (0 : Int64) (0 : Int32) ls (lv_sub hl [2, 4, 1, 0] rfl) hm
    · rw [if_pos c4] at hm
      refine lv_ldc2 (v := (-1 : Int64)) S.1 S.2.1 S.2.2.2.1 (S.2.2.2.2 _ kcX8_share_124) dX8_share_17 ?_
      exact gRetl S hr hlk C (pr1 hm) (pr2 hm) dX8_share_20
def mX8_differ_101 (k45 : gMem → Int32 → Int64 → Int64 → Int32 → Option (Int64 × gMem)) (M : gMem) (x3 : Int32) (x6 : Int64) (x8 : Int32) (z0 : Int64) : Option (Int64 × gMem) := (mX8_end M x8).bind fun r1 => ck (inb x8 600) <| nmd (x6 + (r1 - (M.2 5 x8.toNatClampNeg))) fun y3 => nmd (x8 + (1 : Int32)) fun y4 => k45 M x3 z0 y3 y4
def mX8_differ_45 : Nat → gMem → Int32 → Int64 → Int64 → Int32 → Option (Int64 × gMem)
  | 0, _, _, _, _, _ => none
  | n + 1, M, x3, x4, x6, x8 => if (M.1 0 4) ≤ x8 then (if x3 = 0 then (some (x4, M)) else (some (x6, M))) else (ck (inb x8 600) <| ck (nz (17 : Int32)) <| ck (inb x8 600) <| ck (nz (17 : Int32)) <| if ((M.1 6 x8.toNatClampNeg) / (17 : Int32)) = ((M.1 6 x8.toNatClampNeg) - (M.1 6 x8.toNatClampNeg) / (17 : Int32) * (17 : Int32)) then (nmd (x8 + (1 : Int32)) fun y10 => mX8_differ_45 n M x3 x4 x6 y10) else (if x4 = (-1 : Int64) then (ck (inb x8 600) <| mX8_differ_101 (mX8_differ_45 n) M x3 x6 x8 (M.2 5 x8.toNatClampNeg)) else (mX8_differ_101 (mX8_differ_45 n) M x3 x6 x8 x4)))
def mX8_differ (M : gMem) (x1 : Int32) (x2 : Int32) (x3 : Int32) : Option (Int64 × gMem) := (mX8_isBook x1).bind fun r1 => if r1 = 0 then (some ((-1 : Int64), M)) else ((mX8_isBook x2).bind fun r3 => if r3 = 0 then (some ((-1 : Int64), M)) else ((mX8_lies x3 (0 : Int32) (1 : Int32)).bind fun r5 => if r5 = 0 then (some ((-1 : Int64), M)) else ((mX8_makeSpans M (4 : Int32) x1 x2).bind fun r7 => mX8_differ_45 FU r7 x3 (-1 : Int64) (0 : Int64) (0 : Int32))))
set_option maxHeartbeats 4000000 in
set_option maxRecDepth 100000 in
theorem wX8_differ_101 {p : Program} {l : Launch} {e : Env} {s : State} {m : MethodId} {args : Array Value} {below : List Frame} {meth : Method} {c : Code} {D : va_G} {cy : gCy} {ad : Nat → Nat} {r0 : (Int64 × gMem)} (S : CallFix p m c cX8_differ 9 s args wsX8_differ RX8) (hr : meth.sig.returnType = (some .long)) (hlk : meth.locks = false) {k45 : gMem → Int32 → Int64 → Int64 → Int32 → Option (Int64 × gMem)} (kk45 : ∀ (M : gMem) (H : Heap) (locs : List Loc), gW shR D cy ad s s.heap M H locs → ∀ (x3 : Int32) (x4 : Int64) (x6 : Int64) (x8 : Int32), ∀ (ls : Array Slot), lv_has ls 9 [(0, .ref (ad 0)), (3, .int x3), (4, .long x4), (6, .long x6), (8, .int x8)] → k45 M x3 x4 x6 x8 = some r0 → W p l e (gR 6 146) s m args below meth c H locs 0 0 (MQ below (gQl shR D cy ad r0.1 r0.2) args s 0 0 (gA shR ad)) (F0 m 45 ls [])) : ∀ (M : gMem) (H : Heap) (locs : List Loc), gW shR D cy ad s s.heap M H locs → ∀ (x3 : Int32) (x6 : Int64) (x8 : Int32) (z0 : Int64), ∀ (ls : Array Slot), lv_has ls 9 [(0, .ref (ad 0)), (3, .int x3), (6, .long x6), (8, .int x8)] → mX8_differ_101 k45 M x3 x6 x8 z0 = some r0 → W p l e (gR 6 146) s m args below meth c H locs 0 0 (MQ below (gQl shR D cy ad r0.1 r0.2) args s 0 0 (gA shR ad)) (F0 m 101 ls [.long z0]) := by
  intro M H locs C x3 x6 x8 z0 ls hl hm
  rw [mX8_differ_101] at hm
  refine lv_lstore (lv' := [(4, .long z0), (0, .ref (ad 0)), (3, .int x3), (6, .long x6), (8, .int x8)]) S.1 S.2.1 dX8_differ_101 hl (by decide) rfl (fun ls hl => ?_)
  refine lv_lload S.1 S.2.1 dX8_differ_103 (lv_at hl 3 rfl) ?_
  refine lv_aload_n S.1 S.2.1 dX8_differ_105 rfl (lv_at hl 1 rfl) ?_
  refine lv_iload S.1 S.2.1 dX8_differ_106 (lv_at hl 4 rfl) ?_
  obtain ⟨r1, hcr1, hm⟩ := bd_ok hm
  refine gC_l C (gRV (k := 0) (ci := 7) (r := (RX8, TX8, 34)) (As := [.int x8]) (rest := [.long x6]) 1 S C (c_X8_end l D cy ad M x8 r1 hcr1) gX8_differ_X8_end rfl (by decide +kernel) (by decide) shR_0 rfl rfl rfl hl.1 rfl (Nat.le_of_ble_eq_true rfl) dX8_differ_108) (fun H locs C => ?_)
  refine lv_aload_n S.1 S.2.1 dX8_differ_111 rfl (lv_at hl 1 rfl) ?_
  refine g_get (k := 0) (ci := 7) (f := 5) (v := .ref (ad 5))  S C kiX8_differ_X8 kfX8_differ_23 rfl (by decide) shR_0 rfl rfl dX8_differ_112 ?_
  refine lv_iload S.1 S.2.1 dX8_differ_115 (lv_at hl 4 rfl) ?_
  obtain ⟨h2, hm⟩ := ck_ok hm
  refine g_lald S C (k := 5) shR_5 h2 dX8_differ_117 ?_
  refine lv_lsub S.1 S.2.1 dX8_differ_118 ?_
  refine lv_ladd S.1 S.2.1 dX8_differ_119 ?_
  obtain ⟨y3, ey3, hm⟩ := nmd_ok hm
  refine gNmJ ey3 ?_
  refine lv_lstore (lv' := [(6, .long y3), (4, .long z0), (0, .ref (ad 0)), (3, .int x3), (8, .int x8)]) S.1 S.2.1 dX8_differ_120 hl (by decide) rfl (fun ls hl => ?_)
  obtain ⟨y4, ey4, hm⟩ := nmd_ok hm
  refine lv_iinc (v := y4) (lv' := [(8, .int y4), (6, .long y3), (4, .long z0), (0, .ref (ad 0)), (3, .int x3)]) S.1 S.2.1 dX8_differ_122 hl (k := 4) rfl (by rw [ey4]; rfl) (by decide) rfl (fun ls hl => ?_)
  refine lv_goto (tgt := 45) S.1 S.2.1 dX8_differ_125 (by decide) ?_
  exact kk45 M _ _ C x3 z0 y3 y4 ls (lv_sub hl [3, 4, 2, 1, 0] rfl) hm
set_option maxHeartbeats 4000000 in
set_option maxRecDepth 100000 in
theorem wX8_differ_45 {p : Program} {l : Launch} {e : Env} {s : State} {m : MethodId} {args : Array Value} {below : List Frame} {meth : Method} {c : Code} {D : va_G} {cy : gCy} {ad : Nat → Nat} {r0 : (Int64 × gMem)} (S : CallFix p m c cX8_differ 9 s args wsX8_differ RX8) (hr : meth.sig.returnType = (some .long)) (hlk : meth.locks = false) : ∀ (n : Nat), ∀ (M : gMem) (H : Heap) (locs : List Loc), gW shR D cy ad s s.heap M H locs → ∀ (x3 : Int32) (x4 : Int64) (x6 : Int64) (x8 : Int32), ∀ (ls : Array Slot), lv_has ls 9 [(0, .ref (ad 0)), (3, .int x3), (4, .long x4), (6, .long x6), (8, .int x8)] → mX8_differ_45 n M x3 x4 x6 x8 = some r0 → W p l e (gR 6 146) s m args below meth c H locs 0 0 (MQ below (gQl shR D cy ad r0.1 r0.2) args s 0 0 (gA shR ad)) (F0 m 45 ls []) := by
  intro n
  induction n with
  | zero => intro M H locs C x3 x4 x6 x8 ls hl hm; exact absurd hm (by simp [mX8_differ_45])
  | succ n ih =>
    intro M H locs C x3 x4 x6 x8 ls hl hm
    rw [mX8_differ_45] at hm
    refine lv_iload S.1 S.2.1 dX8_differ_45 (lv_at hl 4 rfl) ?_
    refine lv_aload_n S.1 S.2.1 dX8_differ_47 rfl (lv_at hl 0 rfl) ?_
    refine g_get (k := 0) (ci := 7) (f := 4) (v := .int (M.1 0 4))  S C kiX8_differ_X8 kfX8_differ_139 rfl (by decide) shR_0 rfl rfl dX8_differ_48 ?_
    refine lv_icmp_ge (tgt := 128) S.1 S.2.1 dX8_differ_51 (by decide) (fun c1 => ?_) (fun c1 => ?_)
    · rw [if_pos c1] at hm
      refine lv_iload_n S.1 S.2.1 dX8_differ_128 rfl (lv_at hl 1 rfl) ?_
      refine lv_if_ne (tgt := 137) S.1 S.2.1 dX8_differ_129 (by decide) (fun c2 => ?_) (fun c2 => ?_)
      · rw [if_neg c2] at hm
        refine lv_lload S.1 S.2.1 dX8_differ_137 (lv_at hl 3 rfl) ?_
        exact gRetl S hr hlk C (pr1 hm) (pr2 hm) dX8_differ_139
      · rw [if_pos c2] at hm
        refine lv_lload S.1 S.2.1 dX8_differ_132 (lv_at hl 2 rfl) ?_
        refine lv_goto (tgt := 139) S.1 S.2.1 dX8_differ_134 (by decide) ?_
        exact gRetl S hr hlk C (pr1 hm) (pr2 hm) dX8_differ_139
    · rw [if_neg c1] at hm
      refine lv_aload_n S.1 S.2.1 dX8_differ_54 rfl (lv_at hl 0 rfl) ?_
      refine g_get (k := 0) (ci := 7) (f := 6) (v := .ref (ad 6))  S C kiX8_differ_X8 kfX8_differ_26 rfl (by decide) shR_0 rfl rfl dX8_differ_55 ?_
      refine lv_iload S.1 S.2.1 dX8_differ_58 (lv_at hl 4 rfl) ?_
      obtain ⟨h3, hm⟩ := ck_ok hm
      refine g_iald S C (k := 6) shR_6 h3 dX8_differ_60 ?_
      refine lv_bipush (v := (17 : Int32)) S.1 S.2.1 dX8_differ_61 (by decide) ?_
      obtain ⟨h4, hm⟩ := ck_ok hm
      refine lv_idiv S.1 S.2.1 dX8_differ_63 (nz_ok h4) ?_
      refine lv_aload_n S.1 S.2.1 dX8_differ_64 rfl (lv_at hl 0 rfl) ?_
      refine g_get (k := 0) (ci := 7) (f := 6) (v := .ref (ad 6))  S C kiX8_differ_X8 kfX8_differ_26 rfl (by decide) shR_0 rfl rfl dX8_differ_65 ?_
      refine lv_iload S.1 S.2.1 dX8_differ_68 (lv_at hl 4 rfl) ?_
      obtain ⟨h5, hm⟩ := ck_ok hm
      refine g_iald S C (k := 6) shR_6 h5 dX8_differ_70 ?_
      refine lv_bipush (v := (17 : Int32)) S.1 S.2.1 dX8_differ_71 (by decide) ?_
      obtain ⟨h6, hm⟩ := ck_ok hm
      refine lv_irem S.1 S.2.1 dX8_differ_73 (nz_ok h6) ?_
      refine lv_icmp_ne (tgt := 80) S.1 S.2.1 dX8_differ_74 (by decide) (fun c7 => ?_) (fun c7 => ?_)
      · rw [if_neg c7] at hm
        refine lv_lload S.1 S.2.1 dX8_differ_80 (lv_at hl 2 rfl) ?_
        refine lv_ldc2 (v := (-1 : Int64)) S.1 S.2.1 S.2.2.2.1 (S.2.2.2.2 _ kcX8_differ_124) dX8_differ_82 ?_
        refine W.lcmp S.1 S.2.1 dX8_differ_85 ?_
        refine lv_if_ne (tgt := 99) S.1 S.2.1 dX8_differ_86 (by decide) (fun c8 => ?_) (fun c8 => ?_)
        · rw [if_neg (fun q => c8 (cmp_eq.mpr q))] at hm
          refine lv_lload S.1 S.2.1 dX8_differ_99 (lv_at hl 2 rfl) ?_
          exact wX8_differ_101 S hr hlk ih M _ _ C x3 x6 x8 x4 ls (lv_sub hl [0, 1, 3, 4] rfl) hm
        · rw [if_pos (cmp_eq.mp c8)] at hm
          refine lv_aload_n S.1 S.2.1 dX8_differ_89 rfl (lv_at hl 0 rfl) ?_
          refine g_get (k := 0) (ci := 7) (f := 5) (v := .ref (ad 5))  S C kiX8_differ_X8 kfX8_differ_23 rfl (by decide) shR_0 rfl rfl dX8_differ_90 ?_
          refine lv_iload S.1 S.2.1 dX8_differ_93 (lv_at hl 4 rfl) ?_
          obtain ⟨h9, hm⟩ := ck_ok hm
          refine g_lald S C (k := 5) shR_5 h9 dX8_differ_95 ?_
          refine lv_goto (tgt := 101) S.1 S.2.1 dX8_differ_96 (by decide) ?_
          exact wX8_differ_101 S hr hlk ih M _ _ C x3 x6 x8 (M.2 5 x8.toNatClampNeg) ls (lv_sub hl [0, 1, 3, 4] rfl) hm
      · rw [if_pos c7] at hm
        refine lv_goto (tgt := 122) S.1 S.2.1 dX8_differ_77 (by decide) ?_
        obtain ⟨y10, ey10, hm⟩ := nmd_ok hm
        refine lv_iinc (v := y10) (lv' := [(8, .int y10), (0, .ref (ad 0)), (3, .int x3), (4, .long x4), (6, .long x6)]) S.1 S.2.1 dX8_differ_122 hl (k := 4) rfl (by rw [ey10]; rfl) (by decide) rfl (fun ls hl => ?_)
        refine lv_goto (tgt := 45) S.1 S.2.1 dX8_differ_125 (by decide) ?_
        exact ih M _ _ C x3 x4 x6 y10 ls (lv_sub hl [1, 2, 3, 4, 0] rfl) hm
set_option maxHeartbeats 4000000 in
set_option maxRecDepth 100000 in
theorem c_X8_differ (l : Launch) (D : va_G) (cy : gCy) (ad : Nat → Nat) (M : gMem) (x1 : Int32) (x2 : Int32) (x3 : Int32) (r0 : (Int64 × gMem)) (hm : mX8_differ M x1 x2 x3 = some r0) : Met l yX8_differ wsX8_differ (gR 6 146) (va_Pc [.ref (ad 0), .int x1, .int x2, .int x3] (gP shR D cy ad M)) (gQl shR D cy ad r0.1 r0.2) 0 0 (gA shR ad) := by
  refine gEnter (cc := cX8_differ) (maxL := 9) (ret := (some .long)) (by decide) rfl (Nat.le_of_ble_eq_true rfl) ?_
  intro p e s m below meth c ls S hr hlk C hl
  have S : CallFix p m c cX8_differ 9 s _ wsX8_differ RX8 := S
  have hl : lv_has ls 9 [(0, .ref (ad 0)), (1, .int x1), (2, .int x2), (3, .int x3)] := hl
  rw [mX8_differ] at hm
  refine lv_iload_n S.1 S.2.1 dX8_differ_0 rfl (lv_at hl 1 rfl) ?_
  obtain ⟨r1, hcr1, hm⟩ := bd_ok hm
  refine gC_i C (gRS (As := [.int x1]) (rest := []) 1 S C (c_X8_isBook l D cy ad M x1 r1 hcr1) gX8_differ_X8_isBook rfl (by decide +kernel) (by decide) rfl hl.1 rfl (Nat.le_of_ble_eq_true rfl) dX8_differ_1) (fun H locs C => ?_)
  refine lv_if_eq (tgt := 23) S.1 S.2.1 dX8_differ_4 (by decide) (fun c2 => ?_) (fun c2 => ?_)
  · rw [if_pos c2] at hm
    refine lv_ldc2 (v := (-1 : Int64)) S.1 S.2.1 S.2.2.2.1 (S.2.2.2.2 _ kcX8_differ_124) dX8_differ_23 ?_
    exact gRetl S hr hlk C (pr1 hm) (pr2 hm) dX8_differ_26
  · rw [if_neg c2] at hm
    refine lv_iload_n S.1 S.2.1 dX8_differ_7 rfl (lv_at hl 2 rfl) ?_
    obtain ⟨r3, hcr3, hm⟩ := bd_ok hm
    refine gC_i C (gRS (As := [.int x2]) (rest := []) 1 S C (c_X8_isBook l D cy ad M x2 r3 hcr3) gX8_differ_X8_isBook rfl (by decide +kernel) (by decide) rfl hl.1 rfl (Nat.le_of_ble_eq_true rfl) dX8_differ_8) (fun H locs C => ?_)
    refine lv_if_eq (tgt := 23) S.1 S.2.1 dX8_differ_11 (by decide) (fun c4 => ?_) (fun c4 => ?_)
    · rw [if_pos c4] at hm
      refine lv_ldc2 (v := (-1 : Int64)) S.1 S.2.1 S.2.2.2.1 (S.2.2.2.2 _ kcX8_differ_124) dX8_differ_23 ?_
      exact gRetl S hr hlk C (pr1 hm) (pr2 hm) dX8_differ_26
    · rw [if_neg c4] at hm
      refine lv_iload_n S.1 S.2.1 dX8_differ_14 rfl (lv_at hl 3 rfl) ?_
      refine lv_iconst (v := (0 : Int32)) S.1 S.2.1 dX8_differ_15 (by decide) ?_
      refine lv_iconst (v := (1 : Int32)) S.1 S.2.1 dX8_differ_16 (by decide) ?_
      obtain ⟨r5, hcr5, hm⟩ := bd_ok hm
      refine gC_i C (gRS (As := [.int x3, .int (0 : Int32), .int (1 : Int32)]) (rest := []) 3 S C (c_X8_lies l D cy ad M x3 (0 : Int32) (1 : Int32) r5 hcr5) gX8_differ_X8_lies rfl (by decide +kernel) (by decide) rfl hl.1 rfl (Nat.le_of_ble_eq_true rfl) dX8_differ_17) (fun H locs C => ?_)
      refine lv_if_ne (tgt := 27) S.1 S.2.1 dX8_differ_20 (by decide) (fun c6 => ?_) (fun c6 => ?_)
      · rw [if_neg c6] at hm
        refine lv_aload_n S.1 S.2.1 dX8_differ_27 rfl (lv_at hl 0 rfl) ?_
        refine lv_iconst (v := (4 : Int32)) S.1 S.2.1 dX8_differ_28 (by decide) ?_
        refine lv_iload_n S.1 S.2.1 dX8_differ_29 rfl (lv_at hl 1 rfl) ?_
        refine lv_iload_n S.1 S.2.1 dX8_differ_30 rfl (lv_at hl 2 rfl) ?_
        obtain ⟨r7, hcr7, hm⟩ := bd_ok hm
        refine gC_v C (gRV (k := 0) (ci := 7) (r := (RX8, TX8, 34)) (As := [.int (4 : Int32), .int x1, .int x2]) (rest := []) 3 S C (c_X8_makeSpans l D cy ad M (4 : Int32) x1 x2 r7 hcr7) gX8_differ_X8_makeSpans rfl (by decide +kernel) (by decide) shR_0 rfl rfl rfl hl.1 rfl (Nat.le_of_ble_eq_true rfl) dX8_differ_31) (fun H locs C => ?_)
        refine lv_ldc2 (v := (-1 : Int64)) S.1 S.2.1 S.2.2.2.1 (S.2.2.2.2 _ kcX8_differ_124) dX8_differ_34 ?_
        refine lv_lstore (lv' := [(4, .long (-1 : Int64)), (0, .ref (ad 0)), (1, .int x1), (2, .int x2), (3, .int x3)]) S.1 S.2.1 dX8_differ_37 hl (by decide) rfl (fun ls hl => ?_)
        refine lv_lconst (v := (0 : Int64)) S.1 S.2.1 dX8_differ_39 (by decide) ?_
        refine lv_lstore (lv' := [(6, .long (0 : Int64)), (4, .long (-1 : Int64)), (0, .ref (ad 0)), (1, .int x1), (2, .int x2), (3, .int x3)]) S.1 S.2.1 dX8_differ_40 hl (by decide) rfl (fun ls hl => ?_)
        refine lv_iconst (v := (0 : Int32)) S.1 S.2.1 dX8_differ_42 (by decide) ?_
        refine lv_istore (lv' := [(8, .int (0 : Int32)), (6, .long (0 : Int64)), (4, .long (-1 : Int64)), (0, .ref (ad 0)), (1, .int x1), (2, .int x2), (3, .int x3)]) S.1 S.2.1 dX8_differ_43 hl (by decide) rfl (fun ls hl => ?_)
        exact wX8_differ_45 S hr hlk FU r7 _ _ C x3 (-1 : Int64) (0 : Int64) (0 : Int32) ls (lv_sub hl [3, 6, 2, 1, 0] rfl) hm
      · rw [if_pos c6] at hm
        refine lv_ldc2 (v := (-1 : Int64)) S.1 S.2.1 S.2.2.2.1 (S.2.2.2.2 _ kcX8_differ_124) dX8_differ_23 ?_
        exact gRetl S hr hlk C (pr1 hm) (pr2 hm) dX8_differ_26
def mX8_same (M : gMem) (x1 : Int32) (x2 : Int32) : Option (Int32 × gMem) := (mX8_isBook x1).bind fun r1 => if r1 = 0 then (some ((-1 : Int32), M)) else ((mX8_isBook x2).bind fun r3 => if r3 = 0 then (some ((-1 : Int32), M)) else ((mX8_differ M x1 x2 (1 : Int32)).bind fun r5 => if r5.1 = (0 : Int64) then (some ((1 : Int32), r5.2)) else (some ((0 : Int32), r5.2))))
set_option maxHeartbeats 4000000 in
set_option maxRecDepth 100000 in
theorem c_X8_same (l : Launch) (D : va_G) (cy : gCy) (ad : Nat → Nat) (M : gMem) (x1 : Int32) (x2 : Int32) (r0 : (Int32 × gMem)) (hm : mX8_same M x1 x2 = some r0) : Met l yX8_same wsX8_same (gR 7 174) (va_Pc [.ref (ad 0), .int x1, .int x2] (gP shR D cy ad M)) (gQi shR D cy ad r0.1 r0.2) 0 0 (gA shR ad) := by
  refine gEnter (cc := cX8_same) (maxL := 3) (ret := (some .int)) (by decide) rfl (Nat.le_of_ble_eq_true rfl) ?_
  intro p e s m below meth c ls S hr hlk C hl
  have S : CallFix p m c cX8_same 3 s _ wsX8_same RX8 := S
  have hl : lv_has ls 3 [(0, .ref (ad 0)), (1, .int x1), (2, .int x2)] := hl
  rw [mX8_same] at hm
  refine lv_iload_n S.1 S.2.1 dX8_same_0 rfl (lv_at hl 1 rfl) ?_
  obtain ⟨r1, hcr1, hm⟩ := bd_ok hm
  refine gC_i C (gRS (As := [.int x1]) (rest := []) 1 S C (c_X8_isBook l D cy ad M x1 r1 hcr1) gX8_same_X8_isBook rfl (by decide +kernel) (by decide) rfl hl.1 rfl (Nat.le_of_ble_eq_true rfl) dX8_same_1) (fun H locs C => ?_)
  refine lv_if_eq (tgt := 14) S.1 S.2.1 dX8_same_4 (by decide) (fun c2 => ?_) (fun c2 => ?_)
  · rw [if_pos c2] at hm
    refine lv_iconst (v := (-1 : Int32)) S.1 S.2.1 dX8_same_14 (by decide) ?_
    exact gReti S hr hlk C (pr1 hm) (pr2 hm) dX8_same_15
  · rw [if_neg c2] at hm
    refine lv_iload_n S.1 S.2.1 dX8_same_7 rfl (lv_at hl 2 rfl) ?_
    obtain ⟨r3, hcr3, hm⟩ := bd_ok hm
    refine gC_i C (gRS (As := [.int x2]) (rest := []) 1 S C (c_X8_isBook l D cy ad M x2 r3 hcr3) gX8_same_X8_isBook rfl (by decide +kernel) (by decide) rfl hl.1 rfl (Nat.le_of_ble_eq_true rfl) dX8_same_8) (fun H locs C => ?_)
    refine lv_if_ne (tgt := 16) S.1 S.2.1 dX8_same_11 (by decide) (fun c4 => ?_) (fun c4 => ?_)
    · rw [if_neg c4] at hm
      refine lv_aload_n S.1 S.2.1 dX8_same_16 rfl (lv_at hl 0 rfl) ?_
      refine lv_iload_n S.1 S.2.1 dX8_same_17 rfl (lv_at hl 1 rfl) ?_
      refine lv_iload_n S.1 S.2.1 dX8_same_18 rfl (lv_at hl 2 rfl) ?_
      refine lv_iconst (v := (1 : Int32)) S.1 S.2.1 dX8_same_19 (by decide) ?_
      obtain ⟨r5, hcr5, hm⟩ := bd_ok hm
      refine gC_l C (gRV (k := 0) (ci := 7) (r := (RX8, TX8, 34)) (As := [.int x1, .int x2, .int (1 : Int32)]) (rest := []) 3 S C (c_X8_differ l D cy ad M x1 x2 (1 : Int32) r5 hcr5) gX8_same_X8_differ rfl (by decide +kernel) (by decide) shR_0 rfl rfl rfl hl.1 rfl (Nat.le_of_ble_eq_true rfl) dX8_same_20) (fun H locs C => ?_)
      refine lv_lconst (v := (0 : Int64)) S.1 S.2.1 dX8_same_23 (by decide) ?_
      refine W.lcmp S.1 S.2.1 dX8_same_24 ?_
      refine lv_if_ne (tgt := 32) S.1 S.2.1 dX8_same_25 (by decide) (fun c6 => ?_) (fun c6 => ?_)
      · rw [if_neg (fun q => c6 (cmp_eq.mpr q))] at hm
        refine lv_iconst (v := (0 : Int32)) S.1 S.2.1 dX8_same_32 (by decide) ?_
        exact gReti S hr hlk C (pr1 hm) (pr2 hm) dX8_same_33
      · rw [if_pos (cmp_eq.mp c6)] at hm
        refine lv_iconst (v := (1 : Int32)) S.1 S.2.1 dX8_same_28 (by decide) ?_
        refine lv_goto (tgt := 33) S.1 S.2.1 dX8_same_29 (by decide) ?_
        exact gReti S hr hlk C (pr1 hm) (pr2 hm) dX8_same_33
    · rw [if_pos c4] at hm
      refine lv_iconst (v := (-1 : Int32)) S.1 S.2.1 dX8_same_14 (by decide) ?_
      exact gReti S hr hlk C (pr1 hm) (pr2 hm) dX8_same_15
def mX8_spanOf_2 : Nat → gMem → Int64 → Int32 → Option Int32
  | 0, _, _, _ => none
  | n + 1, M, x1, x3 => (mX8_end M x3).bind fun r1 => if x1 < r1 then (some x3) else (nmd (x3 + (1 : Int32)) fun y3 => mX8_spanOf_2 n M x1 y3)
def mX8_spanOf (M : gMem) (x1 : Int64) : Option Int32 := mX8_spanOf_2 FU M x1 (0 : Int32)
set_option maxHeartbeats 4000000 in
set_option maxRecDepth 100000 in
theorem wX8_spanOf_2 {p : Program} {l : Launch} {e : Env} {s : State} {m : MethodId} {args : Array Value} {below : List Frame} {meth : Method} {c : Code} {D : va_G} {cy : gCy} {ad : Nat → Nat} {M : gMem} {r0 : Int32} (S : CallFix p m c cX8_spanOf 4 s args wsX8_spanOf RX8) (hr : meth.sig.returnType = (some .int)) (hlk : meth.locks = false) : ∀ (n : Nat), ∀ (H : Heap) (locs : List Loc), gW shR D cy ad s s.heap M H locs → ∀ (x1 : Int64) (x3 : Int32), ∀ (ls : Array Slot), lv_has ls 4 [(0, .ref (ad 0)), (1, .long x1), (3, .int x3)] → mX8_spanOf_2 n M x1 x3 = some r0 → W p l e (gR 1 21) s m args below meth c H locs 0 0 (MQ below (gQi shR D cy ad r0 M) args s 0 0 (gA shR ad)) (F0 m 2 ls []) := by
  intro n
  induction n with
  | zero => intro H locs C x1 x3 ls hl hm; exact absurd hm (by simp [mX8_spanOf_2])
  | succ n ih =>
    intro H locs C x1 x3 ls hl hm
    rw [mX8_spanOf_2] at hm
    refine lv_aload_n S.1 S.2.1 dX8_spanOf_2 rfl (lv_at hl 0 rfl) ?_
    refine lv_iload_n S.1 S.2.1 dX8_spanOf_3 rfl (lv_at hl 2 rfl) ?_
    obtain ⟨r1, hcr1, hm⟩ := bd_ok hm
    refine gC_l C (gRV (k := 0) (ci := 7) (r := (RX8, TX8, 34)) (As := [.int x3]) (rest := []) 1 S C (c_X8_end l D cy ad M x3 r1 hcr1) gX8_spanOf_X8_end rfl (by decide +kernel) (by decide) shR_0 rfl rfl rfl hl.1 rfl (Nat.le_of_ble_eq_true rfl) dX8_spanOf_4) (fun H locs C => ?_)
    refine lv_lload_n S.1 S.2.1 dX8_spanOf_7 rfl (lv_at hl 1 rfl) ?_
    refine W.lcmp S.1 S.2.1 dX8_spanOf_8 ?_
    refine lv_if_gt (tgt := 18) S.1 S.2.1 dX8_spanOf_9 (by decide) (fun c2 => ?_) (fun c2 => ?_)
    · rw [if_pos (cmp_gt.mp c2)] at hm
      refine lv_iload_n S.1 S.2.1 dX8_spanOf_18 rfl (lv_at hl 2 rfl) ?_
      exact gReti S hr hlk C (Option.some.inj hm) rfl dX8_spanOf_19
    · rw [if_neg (fun q => c2 (cmp_gt.mpr q))] at hm
      obtain ⟨y3, ey3, hm⟩ := nmd_ok hm
      refine lv_iinc (v := y3) (lv' := [(3, .int y3), (0, .ref (ad 0)), (1, .long x1)]) S.1 S.2.1 dX8_spanOf_12 hl (k := 2) rfl (by rw [ey3]; rfl) (by decide) rfl (fun ls hl => ?_)
      refine lv_goto (tgt := 2) S.1 S.2.1 dX8_spanOf_15 (by decide) ?_
      exact ih _ _ C x1 y3 ls (lv_sub hl [1, 2, 0] rfl) hm
set_option maxHeartbeats 4000000 in
set_option maxRecDepth 100000 in
theorem c_X8_spanOf (l : Launch) (D : va_G) (cy : gCy) (ad : Nat → Nat) (M : gMem) (x1 : Int64) (r0 : Int32) (hm : mX8_spanOf M x1 = some r0) : Met l yX8_spanOf wsX8_spanOf (gR 1 21) (va_Pc [.ref (ad 0), .long x1] (gP shR D cy ad M)) (gQi shR D cy ad r0 M) 0 0 (gA shR ad) := by
  refine gEnter (cc := cX8_spanOf) (maxL := 4) (ret := (some .int)) (by decide) rfl (Nat.le_of_ble_eq_true rfl) ?_
  intro p e s m below meth c ls S hr hlk C hl
  have S : CallFix p m c cX8_spanOf 4 s _ wsX8_spanOf RX8 := S
  have hl : lv_has ls 4 [(0, .ref (ad 0)), (1, .long x1)] := hl
  rw [mX8_spanOf] at hm
  refine lv_iconst (v := (0 : Int32)) S.1 S.2.1 dX8_spanOf_0 (by decide) ?_
  refine lv_istore_n (lv' := [(3, .int (0 : Int32)), (0, .ref (ad 0)), (1, .long x1)]) S.1 S.2.1 dX8_spanOf_1 rfl hl (by decide) rfl (fun ls hl => ?_)
  exact wX8_spanOf_2 S hr hlk FU _ _ C x1 (0 : Int32) ls (lv_sub hl [1, 2, 0] rfl) hm
def mX8_isOne (M : gMem) (x1 : Int64) (x3 : Int32) : Option Int32 := (mX8_spanOf M x1).bind fun r1 => (mX8_size x3).bind fun r2 => (mX8_spanOf M ((x1 + r2) - (1 : Int64))).bind fun r3 => if r1 = r3 then (some (1 : Int32)) else (some (0 : Int32))
set_option maxHeartbeats 4000000 in
set_option maxRecDepth 100000 in
theorem c_X8_isOne (l : Launch) (D : va_G) (cy : gCy) (ad : Nat → Nat) (M : gMem) (x1 : Int64) (x3 : Int32) (r0 : Int32) (hm : mX8_isOne M x1 x3 = some r0) : Met l yX8_isOne wsX8_isOne (gR 2 44) (va_Pc [.ref (ad 0), .long x1, .int x3] (gP shR D cy ad M)) (gQi shR D cy ad r0 M) 0 0 (gA shR ad) := by
  refine gEnter (cc := cX8_isOne) (maxL := 4) (ret := (some .boolean)) (by decide) rfl (Nat.le_of_ble_eq_true rfl) ?_
  intro p e s m below meth c ls S hr hlk C hl
  have S : CallFix p m c cX8_isOne 4 s _ wsX8_isOne RX8 := S
  have hl : lv_has ls 4 [(0, .ref (ad 0)), (1, .long x1), (3, .int x3)] := hl
  rw [mX8_isOne] at hm
  refine lv_aload_n S.1 S.2.1 dX8_isOne_0 rfl (lv_at hl 0 rfl) ?_
  refine lv_lload_n S.1 S.2.1 dX8_isOne_1 rfl (lv_at hl 1 rfl) ?_
  obtain ⟨r1, hcr1, hm⟩ := bd_ok hm
  refine gC_i C (gRV (k := 0) (ci := 7) (r := (RX8, TX8, 34)) (As := [.long x1]) (rest := []) 1 S C (c_X8_spanOf l D cy ad M x1 r1 hcr1) gX8_isOne_X8_spanOf rfl (by decide +kernel) (by decide) shR_0 rfl rfl rfl hl.1 rfl (Nat.le_of_ble_eq_true rfl) dX8_isOne_2) (fun H locs C => ?_)
  refine lv_aload_n S.1 S.2.1 dX8_isOne_5 rfl (lv_at hl 0 rfl) ?_
  refine lv_lload_n S.1 S.2.1 dX8_isOne_6 rfl (lv_at hl 1 rfl) ?_
  refine lv_iload_n S.1 S.2.1 dX8_isOne_7 rfl (lv_at hl 2 rfl) ?_
  obtain ⟨r2, hcr2, hm⟩ := bd_ok hm
  refine gC_l C (gRS (As := [.int x3]) (rest := [.long x1, .ref (ad 0), .int r1]) 1 S C (c_X8_size l D cy ad M x3 r2 hcr2) gX8_isOne_X8_size rfl (by decide +kernel) (by decide) rfl hl.1 rfl (Nat.le_of_ble_eq_true rfl) dX8_isOne_8) (fun H locs C => ?_)
  refine lv_ladd S.1 S.2.1 dX8_isOne_11 ?_
  refine lv_lconst (v := (1 : Int64)) S.1 S.2.1 dX8_isOne_12 (by decide) ?_
  refine lv_lsub S.1 S.2.1 dX8_isOne_13 ?_
  obtain ⟨r3, hcr3, hm⟩ := bd_ok hm
  refine gC_i C (gRV (k := 0) (ci := 7) (r := (RX8, TX8, 34)) (As := [.long ((x1 + r2) - (1 : Int64))]) (rest := [.int r1]) 1 S C (c_X8_spanOf l D cy ad M ((x1 + r2) - (1 : Int64)) r3 hcr3) gX8_isOne_X8_spanOf rfl (by decide +kernel) (by decide) shR_0 rfl rfl rfl hl.1 rfl (Nat.le_of_ble_eq_true rfl) dX8_isOne_14) (fun H locs C => ?_)
  refine lv_icmp_ne (tgt := 24) S.1 S.2.1 dX8_isOne_17 (by decide) (fun c4 => ?_) (fun c4 => ?_)
  · rw [if_neg c4] at hm
    refine lv_iconst (v := (0 : Int32)) S.1 S.2.1 dX8_isOne_24 (by decide) ?_
    exact gRetz S hr hlk C rfl (Option.some.inj hm) rfl dX8_isOne_25
  · rw [if_pos c4] at hm
    refine lv_iconst (v := (1 : Int32)) S.1 S.2.1 dX8_isOne_20 (by decide) ?_
    refine lv_goto (tgt := 25) S.1 S.2.1 dX8_isOne_21 (by decide) ?_
    exact gRetz S hr hlk C rfl (Option.some.inj hm) rfl dX8_isOne_25
def mX8_mixedAt_3 : Nat → gMem → Int64 → Int32 → Int32 → Option Int32
  | 0, _, _, _, _ => none
  | n + 1, M, x1, x3, x4 => ck (inb x3 33) <| if (M.1 7 x3.toNatClampNeg) ≤ x4 then (some (-1 : Int32)) else (ck (inb (((600 : Int32) * x3) + x4) 19800) <| if (M.2 8 (((600 : Int32) * x3) + x4).toNatClampNeg) = x1 then (some x4) else (nmd (x4 + (1 : Int32)) fun y5 => mX8_mixedAt_3 n M x1 x3 y5))
def mX8_mixedAt (M : gMem) (x1 : Int64) (x3 : Int32) : Option Int32 := mX8_mixedAt_3 FU M x1 x3 (0 : Int32)
set_option maxHeartbeats 4000000 in
set_option maxRecDepth 100000 in
theorem wX8_mixedAt_3 {p : Program} {l : Launch} {e : Env} {s : State} {m : MethodId} {args : Array Value} {below : List Frame} {meth : Method} {c : Code} {D : va_G} {cy : gCy} {ad : Nat → Nat} {M : gMem} {r0 : Int32} (S : CallFix p m c cX8_mixedAt 5 s args wsX8_mixedAt RX8) (hr : meth.sig.returnType = (some .int)) (hlk : meth.locks = false) : ∀ (n : Nat), ∀ (H : Heap) (locs : List Loc), gW shR D cy ad s s.heap M H locs → ∀ (x1 : Int64) (x3 : Int32) (x4 : Int32), ∀ (ls : Array Slot), lv_has ls 5 [(0, .ref (ad 0)), (1, .long x1), (3, .int x3), (4, .int x4)] → mX8_mixedAt_3 n M x1 x3 x4 = some r0 → W p l e (gR 0 0) s m args below meth c H locs 0 0 (MQ below (gQi shR D cy ad r0 M) args s 0 0 (gA shR ad)) (F0 m 3 ls []) := by
  intro n
  induction n with
  | zero => intro H locs C x1 x3 x4 ls hl hm; exact absurd hm (by simp [mX8_mixedAt_3])
  | succ n ih =>
    intro H locs C x1 x3 x4 ls hl hm
    rw [mX8_mixedAt_3] at hm
    refine lv_iload S.1 S.2.1 dX8_mixedAt_3 (lv_at hl 3 rfl) ?_
    refine lv_aload_n S.1 S.2.1 dX8_mixedAt_5 rfl (lv_at hl 0 rfl) ?_
    refine g_get (k := 0) (ci := 7) (f := 7) (v := .ref (ad 7))  S C kiX8_mixedAt_X8 kfX8_mixedAt_29 rfl (by decide) shR_0 rfl rfl dX8_mixedAt_6 ?_
    refine lv_iload_n S.1 S.2.1 dX8_mixedAt_9 rfl (lv_at hl 2 rfl) ?_
    obtain ⟨h1, hm⟩ := ck_ok hm
    refine g_iald S C (k := 7) shR_7 h1 dX8_mixedAt_10 ?_
    refine lv_icmp_ge (tgt := 41) S.1 S.2.1 dX8_mixedAt_11 (by decide) (fun c2 => ?_) (fun c2 => ?_)
    · rw [if_pos c2] at hm
      refine lv_iconst (v := (-1 : Int32)) S.1 S.2.1 dX8_mixedAt_41 (by decide) ?_
      exact gReti S hr hlk C (Option.some.inj hm) rfl dX8_mixedAt_42
    · rw [if_neg c2] at hm
      refine lv_aload_n S.1 S.2.1 dX8_mixedAt_14 rfl (lv_at hl 0 rfl) ?_
      refine g_get (k := 0) (ci := 7) (f := 8) (v := .ref (ad 8))  S C kiX8_mixedAt_X8 kfX8_mixedAt_32 rfl (by decide) shR_0 rfl rfl dX8_mixedAt_15 ?_
      refine lv_sipush (v := (600 : Int32)) S.1 S.2.1 dX8_mixedAt_18 (by decide) ?_
      refine lv_iload_n S.1 S.2.1 dX8_mixedAt_21 rfl (lv_at hl 2 rfl) ?_
      refine lv_imul S.1 S.2.1 dX8_mixedAt_22 ?_
      refine lv_iload S.1 S.2.1 dX8_mixedAt_23 (lv_at hl 3 rfl) ?_
      refine lv_iadd S.1 S.2.1 dX8_mixedAt_25 ?_
      obtain ⟨h3, hm⟩ := ck_ok hm
      refine g_lald S C (k := 8) shR_8 h3 dX8_mixedAt_26 ?_
      refine lv_lload_n S.1 S.2.1 dX8_mixedAt_27 rfl (lv_at hl 1 rfl) ?_
      refine W.lcmp S.1 S.2.1 dX8_mixedAt_28 ?_
      refine lv_if_ne (tgt := 35) S.1 S.2.1 dX8_mixedAt_29 (by decide) (fun c4 => ?_) (fun c4 => ?_)
      · rw [if_neg (fun q => c4 (cmp_eq.mpr q))] at hm
        obtain ⟨y5, ey5, hm⟩ := nmd_ok hm
        refine lv_iinc (v := y5) (lv' := [(4, .int y5), (0, .ref (ad 0)), (1, .long x1), (3, .int x3)]) S.1 S.2.1 dX8_mixedAt_35 hl (k := 3) rfl (by rw [ey5]; rfl) (by decide) rfl (fun ls hl => ?_)
        refine lv_goto (tgt := 3) S.1 S.2.1 dX8_mixedAt_38 (by decide) ?_
        exact ih _ _ C x1 x3 y5 ls (lv_sub hl [1, 2, 3, 0] rfl) hm
      · rw [if_pos (cmp_eq.mp c4)] at hm
        refine lv_iload S.1 S.2.1 dX8_mixedAt_32 (lv_at hl 3 rfl) ?_
        exact gReti S hr hlk C (Option.some.inj hm) rfl dX8_mixedAt_34
set_option maxHeartbeats 4000000 in
set_option maxRecDepth 100000 in
theorem c_X8_mixedAt (l : Launch) (D : va_G) (cy : gCy) (ad : Nat → Nat) (M : gMem) (x1 : Int64) (x3 : Int32) (r0 : Int32) (hm : mX8_mixedAt M x1 x3 = some r0) : Met l yX8_mixedAt wsX8_mixedAt (gR 0 0) (va_Pc [.ref (ad 0), .long x1, .int x3] (gP shR D cy ad M)) (gQi shR D cy ad r0 M) 0 0 (gA shR ad) := by
  refine gEnter (cc := cX8_mixedAt) (maxL := 5) (ret := (some .int)) (by decide) rfl (Nat.le_of_ble_eq_true rfl) ?_
  intro p e s m below meth c ls S hr hlk C hl
  have S : CallFix p m c cX8_mixedAt 5 s _ wsX8_mixedAt RX8 := S
  have hl : lv_has ls 5 [(0, .ref (ad 0)), (1, .long x1), (3, .int x3)] := hl
  rw [mX8_mixedAt] at hm
  refine lv_iconst (v := (0 : Int32)) S.1 S.2.1 dX8_mixedAt_0 (by decide) ?_
  refine lv_istore (lv' := [(4, .int (0 : Int32)), (0, .ref (ad 0)), (1, .long x1), (3, .int x3)]) S.1 S.2.1 dX8_mixedAt_1 hl (by decide) rfl (fun ls hl => ?_)
  exact wX8_mixedAt_3 S hr hlk FU _ _ C x1 x3 (0 : Int32) ls (lv_sub hl [1, 2, 3, 0] rfl) hm
def mX8_setOf (M : gMem) (x1 : Int64) (x3 : Int32) : Option Int32 := (mX8_isOne M x1 x3).bind fun r1 => if r1 = 0 then ((mX8_mixedAt M x1 x3).bind fun r3 => ck (inb (((600 : Int32) * x3) + r3) 19800) <| some (M.1 9 (((600 : Int32) * x3) + r3).toNatClampNeg)) else ((mX8_spanOf M x1).bind fun r5 => ck (inb r5 600) <| some ((1 : Int32) <<< ((M.1 6 r5.toNatClampNeg) &&& 31)))
set_option maxHeartbeats 4000000 in
set_option maxRecDepth 100000 in
theorem c_X8_setOf (l : Launch) (D : va_G) (cy : gCy) (ad : Nat → Nat) (M : gMem) (x1 : Int64) (x3 : Int32) (r0 : Int32) (hm : mX8_setOf M x1 x3 = some r0) : Met l yX8_setOf wsX8_setOf (gR 3 67) (va_Pc [.ref (ad 0), .long x1, .int x3] (gP shR D cy ad M)) (gQi shR D cy ad r0 M) 0 0 (gA shR ad) := by
  refine gEnter (cc := cX8_setOf) (maxL := 4) (ret := (some .int)) (by decide) rfl (Nat.le_of_ble_eq_true rfl) ?_
  intro p e s m below meth c ls S hr hlk C hl
  have S : CallFix p m c cX8_setOf 4 s _ wsX8_setOf RX8 := S
  have hl : lv_has ls 4 [(0, .ref (ad 0)), (1, .long x1), (3, .int x3)] := hl
  rw [mX8_setOf] at hm
  refine lv_aload_n S.1 S.2.1 dX8_setOf_0 rfl (lv_at hl 0 rfl) ?_
  refine lv_lload_n S.1 S.2.1 dX8_setOf_1 rfl (lv_at hl 1 rfl) ?_
  refine lv_iload_n S.1 S.2.1 dX8_setOf_2 rfl (lv_at hl 2 rfl) ?_
  obtain ⟨r1, hcr1, hm⟩ := bd_ok hm
  refine gC_i C (gRV (k := 0) (ci := 7) (r := (RX8, TX8, 34)) (As := [.long x1, .int x3]) (rest := []) 2 S C (c_X8_isOne l D cy ad M x1 x3 r1 hcr1) gX8_setOf_X8_isOne rfl (by decide +kernel) (by decide) shR_0 rfl rfl rfl hl.1 rfl (Nat.le_of_ble_eq_true rfl) dX8_setOf_3) (fun H locs C => ?_)
  refine lv_if_eq (tgt := 24) S.1 S.2.1 dX8_setOf_6 (by decide) (fun c2 => ?_) (fun c2 => ?_)
  · rw [if_pos c2] at hm
    refine lv_aload_n S.1 S.2.1 dX8_setOf_24 rfl (lv_at hl 0 rfl) ?_
    refine g_get (k := 0) (ci := 7) (f := 9) (v := .ref (ad 9))  S C kiX8_setOf_X8 kfX8_setOf_35 rfl (by decide) shR_0 rfl rfl dX8_setOf_25 ?_
    refine lv_sipush (v := (600 : Int32)) S.1 S.2.1 dX8_setOf_28 (by decide) ?_
    refine lv_iload_n S.1 S.2.1 dX8_setOf_31 rfl (lv_at hl 2 rfl) ?_
    refine lv_imul S.1 S.2.1 dX8_setOf_32 ?_
    refine lv_aload_n S.1 S.2.1 dX8_setOf_33 rfl (lv_at hl 0 rfl) ?_
    refine lv_lload_n S.1 S.2.1 dX8_setOf_34 rfl (lv_at hl 1 rfl) ?_
    refine lv_iload_n S.1 S.2.1 dX8_setOf_35 rfl (lv_at hl 2 rfl) ?_
    obtain ⟨r3, hcr3, hm⟩ := bd_ok hm
    refine gC_i C (gRV (k := 0) (ci := 7) (r := (RX8, TX8, 34)) (As := [.long x1, .int x3]) (rest := [.int ((600 : Int32) * x3), .ref (ad 9)]) 2 S C (c_X8_mixedAt l D cy ad M x1 x3 r3 hcr3) gX8_setOf_X8_mixedAt rfl (by decide +kernel) (by decide) shR_0 rfl rfl rfl hl.1 rfl (Nat.le_of_ble_eq_true rfl) dX8_setOf_36) (fun H locs C => ?_)
    refine lv_iadd S.1 S.2.1 dX8_setOf_39 ?_
    obtain ⟨h4, hm⟩ := ck_ok hm
    refine g_iald S C (k := 9) shR_9 h4 dX8_setOf_40 ?_
    exact gReti S hr hlk C (Option.some.inj hm) rfl dX8_setOf_41
  · rw [if_neg c2] at hm
    refine lv_iconst (v := (1 : Int32)) S.1 S.2.1 dX8_setOf_9 (by decide) ?_
    refine lv_aload_n S.1 S.2.1 dX8_setOf_10 rfl (lv_at hl 0 rfl) ?_
    refine g_get (k := 0) (ci := 7) (f := 6) (v := .ref (ad 6))  S C kiX8_setOf_X8 kfX8_setOf_26 rfl (by decide) shR_0 rfl rfl dX8_setOf_11 ?_
    refine lv_aload_n S.1 S.2.1 dX8_setOf_14 rfl (lv_at hl 0 rfl) ?_
    refine lv_lload_n S.1 S.2.1 dX8_setOf_15 rfl (lv_at hl 1 rfl) ?_
    obtain ⟨r5, hcr5, hm⟩ := bd_ok hm
    refine gC_i C (gRV (k := 0) (ci := 7) (r := (RX8, TX8, 34)) (As := [.long x1]) (rest := [.ref (ad 6), .int (1 : Int32)]) 1 S C (c_X8_spanOf l D cy ad M x1 r5 hcr5) gX8_setOf_X8_spanOf rfl (by decide +kernel) (by decide) shR_0 rfl rfl rfl hl.1 rfl (Nat.le_of_ble_eq_true rfl) dX8_setOf_16) (fun H locs C => ?_)
    obtain ⟨h6, hm⟩ := ck_ok hm
    refine g_iald S C (k := 6) shR_6 h6 dX8_setOf_19 ?_
    refine lv_ishl S.1 S.2.1 dX8_setOf_20 ?_
    refine lv_goto (tgt := 41) S.1 S.2.1 dX8_setOf_21 (by decide) ?_
    exact gReti S hr hlk C (Option.some.inj hm) rfl dX8_setOf_41
def mX8_makeSets_149 (k11 : gMem → Int32 → Option gMem) (k24 : gMem → Int32 → Int32 → Option gMem) (M : gMem) (x1 : Int32) (x2 : Int32) (z0 : Int32) (z1 : Int32) : Option gMem := ck (inb z1 19800) <| nmd (sI M 9 z1.toNatClampNeg z0) fun M2 => ck (inb x1 33) <| ck (inb x1 33) <| nmd (sI M2 7 x1.toNatClampNeg ((M2.1 7 x1.toNatClampNeg) + (1 : Int32))) fun M5 => nmd (x2 + (1 : Int32)) fun y6 => k24 M5 x1 y6
def mX8_makeSets_24 (k11 : gMem → Int32 → Option gMem) : Nat → gMem → Int32 → Int32 → Option gMem
  | 0, _, _, _ => none
  | n + 1, M, x1, x2 => if (M.1 0 4) ≤ x2 then (nmd (x1 + (-1 : Int32)) fun y2 => k11 M y2) else (ck (inb x2 600) <| (mX8_size x1).bind fun r4 => ck (nzL r4) <| (mX8_size x1).bind fun r6 => nmd (((M.2 5 x2.toNatClampNeg) / r4) * r6) fun y7 => ck (inb x2 600) <| if y7 = (M.2 5 x2.toNatClampNeg) then (nmd (x2 + (1 : Int32)) fun y10 => mX8_makeSets_24 k11 n M x1 y10) else ((mX8_mixedAt M y7 x1).bind fun r11 => if r11 = (-1 : Int32) then ((mX8_setOf M y7 (x1 + (1 : Int32))).bind fun r13 => (mX8_size (x1 + (1 : Int32))).bind fun r14 => (mX8_setOf M (y7 + r14) (x1 + (1 : Int32))).bind fun r15 => ck (inb x1 33) <| nmd (((600 : Int32) * x1) + (M.1 7 x1.toNatClampNeg)) fun y17 => ck (inb y17 19800) <| nmd (sJ M 8 y17.toNatClampNeg y7) fun M19 => if (r13 &&& r15) = 0 then (mX8_makeSets_149 k11 (mX8_makeSets_24 k11 n) M19 x1 x2 (r13 ||| r15) y17) else (mX8_makeSets_149 k11 (mX8_makeSets_24 k11 n) M19 x1 x2 (r13 &&& r15) y17)) else (nmd (x2 + (1 : Int32)) fun y21 => mX8_makeSets_24 k11 n M x1 y21)))
def mX8_makeSets_11 : Nat → gMem → Int32 → Option gMem
  | 0, _, _ => none
  | n + 1, M, x1 => if x1 < 0 then (some M) else (ck (inb x1 33) <| nmd (sI M 7 x1.toNatClampNeg (0 : Int32)) fun M3 => mX8_makeSets_24 (mX8_makeSets_11 n) FU M3 x1 (1 : Int32))
def mX8_makeSets (M : gMem) : Option gMem := ck (inb (32 : Int32) 33) <| nmd (sI M 7 (32 : Int32).toNatClampNeg (0 : Int32)) fun M2 => mX8_makeSets_11 FU M2 (31 : Int32)
set_option maxHeartbeats 4000000 in
set_option maxRecDepth 100000 in
theorem wX8_makeSets_149 {p : Program} {l : Launch} {e : Env} {s : State} {m : MethodId} {args : Array Value} {below : List Frame} {meth : Method} {c : Code} {D : va_G} {cy : gCy} {ad : Nat → Nat} {r0 : gMem} (S : CallFix p m c cX8_makeSets 8 s args wsX8_makeSets RX8) (hr : meth.sig.returnType = none) (hlk : meth.locks = false) {k11 : gMem → Int32 → Option gMem} (kk11 : ∀ (M : gMem) (H : Heap) (locs : List Loc), gW shR D cy ad s s.heap M H locs → ∀ (x1 : Int32), ∀ (ls : Array Slot), lv_has ls 8 [(0, .ref (ad 0)), (1, .int x1)] → k11 M x1 = some r0 → W p l e (gR 4 90) s m args below meth c H locs 0 0 (MQ below (gQv shR D cy ad r0) args s 0 0 (gA shR ad)) (F0 m 11 ls [])) {k24 : gMem → Int32 → Int32 → Option gMem} (kk24 : ∀ (M : gMem) (H : Heap) (locs : List Loc), gW shR D cy ad s s.heap M H locs → ∀ (x1 : Int32) (x2 : Int32), ∀ (ls : Array Slot), lv_has ls 8 [(0, .ref (ad 0)), (1, .int x1), (2, .int x2)] → k24 M x1 x2 = some r0 → W p l e (gR 4 90) s m args below meth c H locs 0 0 (MQ below (gQv shR D cy ad r0) args s 0 0 (gA shR ad)) (F0 m 24 ls [])) : ∀ (M : gMem) (H : Heap) (locs : List Loc), gW shR D cy ad s s.heap M H locs → ∀ (x1 : Int32) (x2 : Int32) (z0 : Int32) (z1 : Int32), ∀ (ls : Array Slot), lv_has ls 8 [(0, .ref (ad 0)), (1, .int x1), (2, .int x2)] → mX8_makeSets_149 k11 k24 M x1 x2 z0 z1 = some r0 → W p l e (gR 4 90) s m args below meth c H locs 0 0 (MQ below (gQv shR D cy ad r0) args s 0 0 (gA shR ad)) (F0 m 149 ls [.int z0, .int z1, .ref (ad 9)]) := by
  intro M H locs C x1 x2 z0 z1 ls hl hm
  rw [mX8_makeSets_149] at hm
  obtain ⟨h1, hm⟩ := ck_ok hm
  obtain ⟨M2, eM2, hm⟩ := nmd_ok hm
  refine g_iast S C (k := 9) shR_9 h1 dX8_makeSets_149 (fun H locs C => ?_)
  rw [← eM2] at C
  refine lv_aload_n S.1 S.2.1 dX8_makeSets_150 rfl (lv_at hl 0 rfl) ?_
  refine g_get (k := 0) (ci := 7) (f := 7) (v := .ref (ad 7))  S C kiX8_makeSets_X8 kfX8_makeSets_29 rfl (by decide) shR_0 rfl rfl dX8_makeSets_151 ?_
  refine lv_iload_n S.1 S.2.1 dX8_makeSets_154 rfl (lv_at hl 1 rfl) ?_
  refine lv_dup2_11 S.1 S.2.1 dX8_makeSets_155 rfl rfl ?_
  obtain ⟨h3, hm⟩ := ck_ok hm
  refine g_iald S C (k := 7) shR_7 h3 dX8_makeSets_156 ?_
  refine lv_iconst (v := (1 : Int32)) S.1 S.2.1 dX8_makeSets_157 (by decide) ?_
  refine lv_iadd S.1 S.2.1 dX8_makeSets_158 ?_
  obtain ⟨h4, hm⟩ := ck_ok hm
  obtain ⟨M5, eM5, hm⟩ := nmd_ok hm
  refine g_iast S C (k := 7) shR_7 h4 dX8_makeSets_159 (fun H locs C => ?_)
  rw [← eM5] at C
  obtain ⟨y6, ey6, hm⟩ := nmd_ok hm
  refine lv_iinc (v := y6) (lv' := [(2, .int y6), (0, .ref (ad 0)), (1, .int x1)]) S.1 S.2.1 dX8_makeSets_160 hl (k := 2) rfl (by rw [ey6]; rfl) (by decide) rfl (fun ls hl => ?_)
  refine lv_goto (tgt := 24) S.1 S.2.1 dX8_makeSets_163 (by decide) ?_
  exact kk24 M5 _ _ C x1 y6 ls (lv_sub hl [1, 2, 0] rfl) hm
set_option maxHeartbeats 4000000 in
set_option maxRecDepth 100000 in
theorem wX8_makeSets_24 {p : Program} {l : Launch} {e : Env} {s : State} {m : MethodId} {args : Array Value} {below : List Frame} {meth : Method} {c : Code} {D : va_G} {cy : gCy} {ad : Nat → Nat} {r0 : gMem} (S : CallFix p m c cX8_makeSets 8 s args wsX8_makeSets RX8) (hr : meth.sig.returnType = none) (hlk : meth.locks = false) {k11 : gMem → Int32 → Option gMem} (kk11 : ∀ (M : gMem) (H : Heap) (locs : List Loc), gW shR D cy ad s s.heap M H locs → ∀ (x1 : Int32), ∀ (ls : Array Slot), lv_has ls 8 [(0, .ref (ad 0)), (1, .int x1)] → k11 M x1 = some r0 → W p l e (gR 4 90) s m args below meth c H locs 0 0 (MQ below (gQv shR D cy ad r0) args s 0 0 (gA shR ad)) (F0 m 11 ls [])) : ∀ (n : Nat), ∀ (M : gMem) (H : Heap) (locs : List Loc), gW shR D cy ad s s.heap M H locs → ∀ (x1 : Int32) (x2 : Int32), ∀ (ls : Array Slot), lv_has ls 8 [(0, .ref (ad 0)), (1, .int x1), (2, .int x2)] → mX8_makeSets_24 k11 n M x1 x2 = some r0 → W p l e (gR 4 90) s m args below meth c H locs 0 0 (MQ below (gQv shR D cy ad r0) args s 0 0 (gA shR ad)) (F0 m 24 ls []) := by
  intro n
  induction n with
  | zero => intro M H locs C x1 x2 ls hl hm; exact absurd hm (by simp [mX8_makeSets_24])
  | succ n ih =>
    intro M H locs C x1 x2 ls hl hm
    rw [mX8_makeSets_24] at hm
    refine lv_iload_n S.1 S.2.1 dX8_makeSets_24 rfl (lv_at hl 2 rfl) ?_
    refine lv_aload_n S.1 S.2.1 dX8_makeSets_25 rfl (lv_at hl 0 rfl) ?_
    refine g_get (k := 0) (ci := 7) (f := 4) (v := .int (M.1 0 4))  S C kiX8_makeSets_X8 kfX8_makeSets_139 rfl (by decide) shR_0 rfl rfl dX8_makeSets_26 ?_
    refine lv_icmp_ge (tgt := 166) S.1 S.2.1 dX8_makeSets_29 (by decide) (fun c1 => ?_) (fun c1 => ?_)
    · rw [if_pos c1] at hm
      obtain ⟨y2, ey2, hm⟩ := nmd_ok hm
      refine lv_iinc (v := y2) (lv' := [(1, .int y2), (0, .ref (ad 0)), (2, .int x2)]) S.1 S.2.1 dX8_makeSets_166 hl (k := 1) rfl (by rw [ey2]; rfl) (by decide) rfl (fun ls hl => ?_)
      refine lv_goto (tgt := 11) S.1 S.2.1 dX8_makeSets_169 (by decide) ?_
      exact kk11 M _ _ C y2 ls (lv_sub hl [1, 0] rfl) hm
    · rw [if_neg c1] at hm
      refine lv_aload_n S.1 S.2.1 dX8_makeSets_32 rfl (lv_at hl 0 rfl) ?_
      refine g_get (k := 0) (ci := 7) (f := 5) (v := .ref (ad 5))  S C kiX8_makeSets_X8 kfX8_makeSets_23 rfl (by decide) shR_0 rfl rfl dX8_makeSets_33 ?_
      refine lv_iload_n S.1 S.2.1 dX8_makeSets_36 rfl (lv_at hl 2 rfl) ?_
      obtain ⟨h3, hm⟩ := ck_ok hm
      refine g_lald S C (k := 5) shR_5 h3 dX8_makeSets_37 ?_
      refine lv_iload_n S.1 S.2.1 dX8_makeSets_38 rfl (lv_at hl 1 rfl) ?_
      obtain ⟨r4, hcr4, hm⟩ := bd_ok hm
      refine gC_l C (gRS (As := [.int x1]) (rest := [.long (M.2 5 x2.toNatClampNeg)]) 1 S C (c_X8_size l D cy ad M x1 r4 hcr4) gX8_makeSets_X8_size rfl (by decide +kernel) (by decide) rfl hl.1 rfl (Nat.le_of_ble_eq_true rfl) dX8_makeSets_39) (fun H locs C => ?_)
      obtain ⟨h5, hm⟩ := ck_ok hm
      refine lv_ldiv S.1 S.2.1 dX8_makeSets_42 (nzL_ok h5) ?_
      refine lv_iload_n S.1 S.2.1 dX8_makeSets_43 rfl (lv_at hl 1 rfl) ?_
      obtain ⟨r6, hcr6, hm⟩ := bd_ok hm
      refine gC_l C (gRS (As := [.int x1]) (rest := [.long ((M.2 5 x2.toNatClampNeg) / r4)]) 1 S C (c_X8_size l D cy ad M x1 r6 hcr6) gX8_makeSets_X8_size rfl (by decide +kernel) (by decide) rfl hl.1 rfl (Nat.le_of_ble_eq_true rfl) dX8_makeSets_44) (fun H locs C => ?_)
      refine lv_lmul S.1 S.2.1 dX8_makeSets_47 ?_
      obtain ⟨y7, ey7, hm⟩ := nmd_ok hm
      refine gNmJ ey7 ?_
      refine lv_lstore_n (lv' := [(3, .long y7), (0, .ref (ad 0)), (1, .int x1), (2, .int x2)]) S.1 S.2.1 dX8_makeSets_48 rfl hl (by decide) rfl (fun ls hl => ?_)
      refine lv_lload_n S.1 S.2.1 dX8_makeSets_49 rfl (lv_at hl 0 rfl) ?_
      refine lv_aload_n S.1 S.2.1 dX8_makeSets_50 rfl (lv_at hl 1 rfl) ?_
      refine g_get (k := 0) (ci := 7) (f := 5) (v := .ref (ad 5))  S C kiX8_makeSets_X8 kfX8_makeSets_23 rfl (by decide) shR_0 rfl rfl dX8_makeSets_51 ?_
      refine lv_iload_n S.1 S.2.1 dX8_makeSets_54 rfl (lv_at hl 3 rfl) ?_
      obtain ⟨h8, hm⟩ := ck_ok hm
      refine g_lald S C (k := 5) shR_5 h8 dX8_makeSets_55 ?_
      refine W.lcmp S.1 S.2.1 dX8_makeSets_56 ?_
      refine lv_if_eq (tgt := 160) S.1 S.2.1 dX8_makeSets_57 (by decide) (fun c9 => ?_) (fun c9 => ?_)
      · rw [if_pos (cmp_eq.mp c9)] at hm
        obtain ⟨y10, ey10, hm⟩ := nmd_ok hm
        refine lv_iinc (v := y10) (lv' := [(2, .int y10), (3, .long y7), (0, .ref (ad 0)), (1, .int x1)]) S.1 S.2.1 dX8_makeSets_160 hl (k := 3) rfl (by rw [ey10]; rfl) (by decide) rfl (fun ls hl => ?_)
        refine lv_goto (tgt := 24) S.1 S.2.1 dX8_makeSets_163 (by decide) ?_
        exact ih M _ _ C x1 y10 ls (lv_sub hl [2, 3, 0] rfl) hm
      · rw [if_neg (fun q => c9 (cmp_eq.mpr q))] at hm
        refine lv_aload_n S.1 S.2.1 dX8_makeSets_60 rfl (lv_at hl 1 rfl) ?_
        refine lv_lload_n S.1 S.2.1 dX8_makeSets_61 rfl (lv_at hl 0 rfl) ?_
        refine lv_iload_n S.1 S.2.1 dX8_makeSets_62 rfl (lv_at hl 2 rfl) ?_
        obtain ⟨r11, hcr11, hm⟩ := bd_ok hm
        refine gC_i C (gRV (k := 0) (ci := 7) (r := (RX8, TX8, 34)) (As := [.long y7, .int x1]) (rest := []) 2 S C (c_X8_mixedAt l D cy ad M y7 x1 r11 hcr11) gX8_makeSets_X8_mixedAt rfl (by decide +kernel) (by decide) shR_0 rfl rfl rfl hl.1 rfl (Nat.le_of_ble_eq_true rfl) dX8_makeSets_63) (fun H locs C => ?_)
        refine lv_iconst (v := (-1 : Int32)) S.1 S.2.1 dX8_makeSets_66 (by decide) ?_
        refine lv_icmp_eq (tgt := 73) S.1 S.2.1 dX8_makeSets_67 (by decide) (fun c12 => ?_) (fun c12 => ?_)
        · rw [if_pos c12] at hm
          refine lv_aload_n S.1 S.2.1 dX8_makeSets_73 rfl (lv_at hl 1 rfl) ?_
          refine lv_lload_n S.1 S.2.1 dX8_makeSets_74 rfl (lv_at hl 0 rfl) ?_
          refine lv_iload_n S.1 S.2.1 dX8_makeSets_75 rfl (lv_at hl 2 rfl) ?_
          refine lv_iconst (v := (1 : Int32)) S.1 S.2.1 dX8_makeSets_76 (by decide) ?_
          refine lv_iadd S.1 S.2.1 dX8_makeSets_77 ?_
          obtain ⟨r13, hcr13, hm⟩ := bd_ok hm
          refine gC_i C (gRV (k := 0) (ci := 7) (r := (RX8, TX8, 34)) (As := [.long y7, .int (x1 + (1 : Int32))]) (rest := []) 2 S C (c_X8_setOf l D cy ad M y7 (x1 + (1 : Int32)) r13 hcr13) gX8_makeSets_X8_setOf rfl (by decide +kernel) (by decide) shR_0 rfl rfl rfl hl.1 rfl (Nat.le_of_ble_eq_true rfl) dX8_makeSets_78) (fun H locs C => ?_)
          refine lv_istore (lv' := [(5, .int r13), (3, .long y7), (0, .ref (ad 0)), (1, .int x1), (2, .int x2)]) S.1 S.2.1 dX8_makeSets_81 hl (by decide) rfl (fun ls hl => ?_)
          refine lv_aload_n S.1 S.2.1 dX8_makeSets_83 rfl (lv_at hl 2 rfl) ?_
          refine lv_lload_n S.1 S.2.1 dX8_makeSets_84 rfl (lv_at hl 1 rfl) ?_
          refine lv_iload_n S.1 S.2.1 dX8_makeSets_85 rfl (lv_at hl 3 rfl) ?_
          refine lv_iconst (v := (1 : Int32)) S.1 S.2.1 dX8_makeSets_86 (by decide) ?_
          refine lv_iadd S.1 S.2.1 dX8_makeSets_87 ?_
          obtain ⟨r14, hcr14, hm⟩ := bd_ok hm
          refine gC_l C (gRS (As := [.int (x1 + (1 : Int32))]) (rest := [.long y7, .ref (ad 0)]) 1 S C (c_X8_size l D cy ad M (x1 + (1 : Int32)) r14 hcr14) gX8_makeSets_X8_size rfl (by decide +kernel) (by decide) rfl hl.1 rfl (Nat.le_of_ble_eq_true rfl) dX8_makeSets_88) (fun H locs C => ?_)
          refine lv_ladd S.1 S.2.1 dX8_makeSets_91 ?_
          refine lv_iload_n S.1 S.2.1 dX8_makeSets_92 rfl (lv_at hl 3 rfl) ?_
          refine lv_iconst (v := (1 : Int32)) S.1 S.2.1 dX8_makeSets_93 (by decide) ?_
          refine lv_iadd S.1 S.2.1 dX8_makeSets_94 ?_
          obtain ⟨r15, hcr15, hm⟩ := bd_ok hm
          refine gC_i C (gRV (k := 0) (ci := 7) (r := (RX8, TX8, 34)) (As := [.long (y7 + r14), .int (x1 + (1 : Int32))]) (rest := []) 2 S C (c_X8_setOf l D cy ad M (y7 + r14) (x1 + (1 : Int32)) r15 hcr15) gX8_makeSets_X8_setOf rfl (by decide +kernel) (by decide) shR_0 rfl rfl rfl hl.1 rfl (Nat.le_of_ble_eq_true rfl) dX8_makeSets_95) (fun H locs C => ?_)
          refine lv_istore (lv' := [(6, .int r15), (5, .int r13), (3, .long y7), (0, .ref (ad 0)), (1, .int x1), (2, .int x2)]) S.1 S.2.1 dX8_makeSets_98 hl (by decide) rfl (fun ls hl => ?_)
          refine lv_sipush (v := (600 : Int32)) S.1 S.2.1 dX8_makeSets_100 (by decide) ?_
          refine lv_iload_n S.1 S.2.1 dX8_makeSets_103 rfl (lv_at hl 4 rfl) ?_
          refine lv_imul S.1 S.2.1 dX8_makeSets_104 ?_
          refine lv_aload_n S.1 S.2.1 dX8_makeSets_105 rfl (lv_at hl 3 rfl) ?_
          refine g_get (k := 0) (ci := 7) (f := 7) (v := .ref (ad 7))  S C kiX8_makeSets_X8 kfX8_makeSets_29 rfl (by decide) shR_0 rfl rfl dX8_makeSets_106 ?_
          refine lv_iload_n S.1 S.2.1 dX8_makeSets_109 rfl (lv_at hl 4 rfl) ?_
          obtain ⟨h16, hm⟩ := ck_ok hm
          refine g_iald S C (k := 7) shR_7 h16 dX8_makeSets_110 ?_
          refine lv_iadd S.1 S.2.1 dX8_makeSets_111 ?_
          obtain ⟨y17, ey17, hm⟩ := nmd_ok hm
          refine gNmI ey17 ?_
          refine lv_istore (lv' := [(7, .int y17), (6, .int r15), (5, .int r13), (3, .long y7), (0, .ref (ad 0)), (1, .int x1), (2, .int x2)]) S.1 S.2.1 dX8_makeSets_112 hl (by decide) rfl (fun ls hl => ?_)
          refine lv_aload_n S.1 S.2.1 dX8_makeSets_114 rfl (lv_at hl 4 rfl) ?_
          refine g_get (k := 0) (ci := 7) (f := 8) (v := .ref (ad 8))  S C kiX8_makeSets_X8 kfX8_makeSets_32 rfl (by decide) shR_0 rfl rfl dX8_makeSets_115 ?_
          refine lv_iload S.1 S.2.1 dX8_makeSets_118 (lv_at hl 0 rfl) ?_
          refine lv_lload_n S.1 S.2.1 dX8_makeSets_120 rfl (lv_at hl 3 rfl) ?_
          obtain ⟨h18, hm⟩ := ck_ok hm
          obtain ⟨M19, eM19, hm⟩ := nmd_ok hm
          refine g_last S C (k := 8) shR_8 h18 dX8_makeSets_121 (fun H locs C => ?_)
          rw [← eM19] at C
          refine lv_aload_n S.1 S.2.1 dX8_makeSets_122 rfl (lv_at hl 4 rfl) ?_
          refine g_get (k := 0) (ci := 7) (f := 9) (v := .ref (ad 9))  S C kiX8_makeSets_X8 kfX8_makeSets_35 rfl (by decide) shR_0 rfl rfl dX8_makeSets_123 ?_
          refine lv_iload S.1 S.2.1 dX8_makeSets_126 (lv_at hl 0 rfl) ?_
          refine lv_iload S.1 S.2.1 dX8_makeSets_128 (lv_at hl 2 rfl) ?_
          refine lv_iload S.1 S.2.1 dX8_makeSets_130 (lv_at hl 1 rfl) ?_
          refine lv_iand S.1 S.2.1 dX8_makeSets_132 ?_
          refine lv_if_eq (tgt := 144) S.1 S.2.1 dX8_makeSets_133 (by decide) (fun c20 => ?_) (fun c20 => ?_)
          · rw [if_pos c20] at hm
            refine lv_iload S.1 S.2.1 dX8_makeSets_144 (lv_at hl 2 rfl) ?_
            refine lv_iload S.1 S.2.1 dX8_makeSets_146 (lv_at hl 1 rfl) ?_
            refine lv_ior S.1 S.2.1 dX8_makeSets_148 ?_
            exact wX8_makeSets_149 S hr hlk kk11 ih M19 _ _ C x1 x2 (r13 ||| r15) y17 ls (lv_sub hl [4, 5, 6] rfl) hm
          · rw [if_neg c20] at hm
            refine lv_iload S.1 S.2.1 dX8_makeSets_136 (lv_at hl 2 rfl) ?_
            refine lv_iload S.1 S.2.1 dX8_makeSets_138 (lv_at hl 1 rfl) ?_
            refine lv_iand S.1 S.2.1 dX8_makeSets_140 ?_
            refine lv_goto (tgt := 149) S.1 S.2.1 dX8_makeSets_141 (by decide) ?_
            exact wX8_makeSets_149 S hr hlk kk11 ih M19 _ _ C x1 x2 (r13 &&& r15) y17 ls (lv_sub hl [4, 5, 6] rfl) hm
        · rw [if_neg c12] at hm
          refine lv_goto (tgt := 160) S.1 S.2.1 dX8_makeSets_70 (by decide) ?_
          obtain ⟨y21, ey21, hm⟩ := nmd_ok hm
          refine lv_iinc (v := y21) (lv' := [(2, .int y21), (3, .long y7), (0, .ref (ad 0)), (1, .int x1)]) S.1 S.2.1 dX8_makeSets_160 hl (k := 3) rfl (by rw [ey21]; rfl) (by decide) rfl (fun ls hl => ?_)
          refine lv_goto (tgt := 24) S.1 S.2.1 dX8_makeSets_163 (by decide) ?_
          exact ih M _ _ C x1 y21 ls (lv_sub hl [2, 3, 0] rfl) hm
set_option maxHeartbeats 4000000 in
set_option maxRecDepth 100000 in
theorem wX8_makeSets_11 {p : Program} {l : Launch} {e : Env} {s : State} {m : MethodId} {args : Array Value} {below : List Frame} {meth : Method} {c : Code} {D : va_G} {cy : gCy} {ad : Nat → Nat} {r0 : gMem} (S : CallFix p m c cX8_makeSets 8 s args wsX8_makeSets RX8) (hr : meth.sig.returnType = none) (hlk : meth.locks = false) : ∀ (n : Nat), ∀ (M : gMem) (H : Heap) (locs : List Loc), gW shR D cy ad s s.heap M H locs → ∀ (x1 : Int32), ∀ (ls : Array Slot), lv_has ls 8 [(0, .ref (ad 0)), (1, .int x1)] → mX8_makeSets_11 n M x1 = some r0 → W p l e (gR 4 90) s m args below meth c H locs 0 0 (MQ below (gQv shR D cy ad r0) args s 0 0 (gA shR ad)) (F0 m 11 ls []) := by
  intro n
  induction n with
  | zero => intro M H locs C x1 ls hl hm; exact absurd hm (by simp [mX8_makeSets_11])
  | succ n ih =>
    intro M H locs C x1 ls hl hm
    rw [mX8_makeSets_11] at hm
    refine lv_iload_n S.1 S.2.1 dX8_makeSets_11 rfl (lv_at hl 1 rfl) ?_
    refine lv_if_lt (tgt := 172) S.1 S.2.1 dX8_makeSets_12 (by decide) (fun c1 => ?_) (fun c1 => ?_)
    · rw [if_pos c1] at hm
      exact gRetv S hr hlk C (Option.some.inj hm) dX8_makeSets_172
    · rw [if_neg c1] at hm
      refine lv_aload_n S.1 S.2.1 dX8_makeSets_15 rfl (lv_at hl 0 rfl) ?_
      refine g_get (k := 0) (ci := 7) (f := 7) (v := .ref (ad 7))  S C kiX8_makeSets_X8 kfX8_makeSets_29 rfl (by decide) shR_0 rfl rfl dX8_makeSets_16 ?_
      refine lv_iload_n S.1 S.2.1 dX8_makeSets_19 rfl (lv_at hl 1 rfl) ?_
      refine lv_iconst (v := (0 : Int32)) S.1 S.2.1 dX8_makeSets_20 (by decide) ?_
      obtain ⟨h2, hm⟩ := ck_ok hm
      obtain ⟨M3, eM3, hm⟩ := nmd_ok hm
      refine g_iast S C (k := 7) shR_7 h2 dX8_makeSets_21 (fun H locs C => ?_)
      rw [← eM3] at C
      refine lv_iconst (v := (1 : Int32)) S.1 S.2.1 dX8_makeSets_22 (by decide) ?_
      refine lv_istore_n (lv' := [(2, .int (1 : Int32)), (0, .ref (ad 0)), (1, .int x1)]) S.1 S.2.1 dX8_makeSets_23 rfl hl (by decide) rfl (fun ls hl => ?_)
      exact wX8_makeSets_24 S hr hlk ih FU M3 _ _ C x1 (1 : Int32) ls (lv_sub hl [1, 2, 0] rfl) hm
set_option maxHeartbeats 4000000 in
set_option maxRecDepth 100000 in
theorem c_X8_makeSets (l : Launch) (D : va_G) (cy : gCy) (ad : Nat → Nat) (M : gMem) (r0 : gMem) (hm : mX8_makeSets M = some r0) : Met l yX8_makeSets wsX8_makeSets (gR 4 90) (va_Pc [.ref (ad 0)] (gP shR D cy ad M)) (gQv shR D cy ad r0) 0 0 (gA shR ad) := by
  refine gEnter (cc := cX8_makeSets) (maxL := 8) (ret := none) (by decide) rfl (Nat.le_of_ble_eq_true rfl) ?_
  intro p e s m below meth c ls S hr hlk C hl
  have S : CallFix p m c cX8_makeSets 8 s _ wsX8_makeSets RX8 := S
  have hl : lv_has ls 8 [(0, .ref (ad 0))] := hl
  rw [mX8_makeSets] at hm
  refine lv_aload_n S.1 S.2.1 dX8_makeSets_0 rfl (lv_at hl 0 rfl) ?_
  refine g_get (k := 0) (ci := 7) (f := 7) (v := .ref (ad 7))  S C kiX8_makeSets_X8 kfX8_makeSets_29 rfl (by decide) shR_0 rfl rfl dX8_makeSets_1 ?_
  refine lv_bipush (v := (32 : Int32)) S.1 S.2.1 dX8_makeSets_4 (by decide) ?_
  refine lv_iconst (v := (0 : Int32)) S.1 S.2.1 dX8_makeSets_6 (by decide) ?_
  obtain ⟨h1, hm⟩ := ck_ok hm
  obtain ⟨M2, eM2, hm⟩ := nmd_ok hm
  refine g_iast S C (k := 7) shR_7 h1 dX8_makeSets_7 (fun H locs C => ?_)
  rw [← eM2] at C
  refine lv_bipush (v := (31 : Int32)) S.1 S.2.1 dX8_makeSets_8 (by decide) ?_
  refine lv_istore_n (lv' := [(1, .int (31 : Int32)), (0, .ref (ad 0))]) S.1 S.2.1 dX8_makeSets_10 rfl hl (by decide) rfl (fun ls hl => ?_)
  exact wX8_makeSets_11 S hr hlk FU M2 _ _ C (31 : Int32) ls (lv_sub hl [1, 0] rfl) hm
def mX8_set (M : gMem) (x1 : Int32) (x2 : Int32) (x3 : Int32) : Option (Int32 × gMem) := (mX8_isBook x1).bind fun r1 => if r1 = 0 then (some ((-1 : Int32), M)) else ((mX8_isBeginning x2 x3).bind fun r3 => if r3 = 0 then (some ((-1 : Int32), M)) else ((mX8_makeSpans M (3 : Int32) x1 x1).bind fun r5 => (mX8_makeSets r5).bind fun r6 => (mX8_number x2).bind fun r7 => (mX8_setOf r6 r7 x3).bind fun r8 => some (r8, r6)))
set_option maxHeartbeats 4000000 in
set_option maxRecDepth 100000 in
theorem c_X8_set (l : Launch) (D : va_G) (cy : gCy) (ad : Nat → Nat) (M : gMem) (x1 : Int32) (x2 : Int32) (x3 : Int32) (r0 : (Int32 × gMem)) (hm : mX8_set M x1 x2 x3 = some r0) : Met l yX8_set wsX8_set (gR 6 146) (va_Pc [.ref (ad 0), .int x1, .int x2, .int x3] (gP shR D cy ad M)) (gQi shR D cy ad r0.1 r0.2) 0 0 (gA shR ad) := by
  refine gEnter (cc := cX8_set) (maxL := 4) (ret := (some .int)) (by decide) rfl (Nat.le_of_ble_eq_true rfl) ?_
  intro p e s m below meth c ls S hr hlk C hl
  have S : CallFix p m c cX8_set 4 s _ wsX8_set RX8 := S
  have hl : lv_has ls 4 [(0, .ref (ad 0)), (1, .int x1), (2, .int x2), (3, .int x3)] := hl
  rw [mX8_set] at hm
  refine lv_iload_n S.1 S.2.1 dX8_set_0 rfl (lv_at hl 1 rfl) ?_
  obtain ⟨r1, hcr1, hm⟩ := bd_ok hm
  refine gC_i C (gRS (As := [.int x1]) (rest := []) 1 S C (c_X8_isBook l D cy ad M x1 r1 hcr1) gX8_set_X8_isBook rfl (by decide +kernel) (by decide) rfl hl.1 rfl (Nat.le_of_ble_eq_true rfl) dX8_set_1) (fun H locs C => ?_)
  refine lv_if_eq (tgt := 15) S.1 S.2.1 dX8_set_4 (by decide) (fun c2 => ?_) (fun c2 => ?_)
  · rw [if_pos c2] at hm
    refine lv_iconst (v := (-1 : Int32)) S.1 S.2.1 dX8_set_15 (by decide) ?_
    exact gReti S hr hlk C (pr1 hm) (pr2 hm) dX8_set_16
  · rw [if_neg c2] at hm
    refine lv_iload_n S.1 S.2.1 dX8_set_7 rfl (lv_at hl 2 rfl) ?_
    refine lv_iload_n S.1 S.2.1 dX8_set_8 rfl (lv_at hl 3 rfl) ?_
    obtain ⟨r3, hcr3, hm⟩ := bd_ok hm
    refine gC_i C (gRS (As := [.int x2, .int x3]) (rest := []) 2 S C (c_X8_isBeginning l D cy ad M x2 x3 r3 hcr3) gX8_set_X8_isBeginning rfl (by decide +kernel) (by decide) rfl hl.1 rfl (Nat.le_of_ble_eq_true rfl) dX8_set_9) (fun H locs C => ?_)
    refine lv_if_ne (tgt := 17) S.1 S.2.1 dX8_set_12 (by decide) (fun c4 => ?_) (fun c4 => ?_)
    · rw [if_neg c4] at hm
      refine lv_aload_n S.1 S.2.1 dX8_set_17 rfl (lv_at hl 0 rfl) ?_
      refine lv_iconst (v := (3 : Int32)) S.1 S.2.1 dX8_set_18 (by decide) ?_
      refine lv_iload_n S.1 S.2.1 dX8_set_19 rfl (lv_at hl 1 rfl) ?_
      refine lv_iload_n S.1 S.2.1 dX8_set_20 rfl (lv_at hl 1 rfl) ?_
      obtain ⟨r5, hcr5, hm⟩ := bd_ok hm
      refine gC_v C (gRV (k := 0) (ci := 7) (r := (RX8, TX8, 34)) (As := [.int (3 : Int32), .int x1, .int x1]) (rest := []) 3 S C (c_X8_makeSpans l D cy ad M (3 : Int32) x1 x1 r5 hcr5) gX8_set_X8_makeSpans rfl (by decide +kernel) (by decide) shR_0 rfl rfl rfl hl.1 rfl (Nat.le_of_ble_eq_true rfl) dX8_set_21) (fun H locs C => ?_)
      refine lv_aload_n S.1 S.2.1 dX8_set_24 rfl (lv_at hl 0 rfl) ?_
      obtain ⟨r6, hcr6, hm⟩ := bd_ok hm
      refine gC_v C (gRV (k := 0) (ci := 7) (r := (RX8, TX8, 34)) (As := []) (rest := []) 0 S C (c_X8_makeSets l D cy ad r5 r6 hcr6) gX8_set_X8_makeSets rfl (by decide +kernel) (by decide) shR_0 rfl rfl rfl hl.1 rfl (Nat.le_of_ble_eq_true rfl) dX8_set_25) (fun H locs C => ?_)
      refine lv_aload_n S.1 S.2.1 dX8_set_28 rfl (lv_at hl 0 rfl) ?_
      refine lv_iload_n S.1 S.2.1 dX8_set_29 rfl (lv_at hl 2 rfl) ?_
      obtain ⟨r7, hcr7, hm⟩ := bd_ok hm
      refine gC_l C (gRS (As := [.int x2]) (rest := [.ref (ad 0)]) 1 S C (c_X8_number l D cy ad r6 x2 r7 hcr7) gX8_set_X8_number rfl (by decide +kernel) (by decide) rfl hl.1 rfl (Nat.le_of_ble_eq_true rfl) dX8_set_30) (fun H locs C => ?_)
      refine lv_iload_n S.1 S.2.1 dX8_set_33 rfl (lv_at hl 3 rfl) ?_
      obtain ⟨r8, hcr8, hm⟩ := bd_ok hm
      refine gC_i C (gRV (k := 0) (ci := 7) (r := (RX8, TX8, 34)) (As := [.long r7, .int x3]) (rest := []) 2 S C (c_X8_setOf l D cy ad r6 r7 x3 r8 hcr8) gX8_set_X8_setOf rfl (by decide +kernel) (by decide) shR_0 rfl rfl rfl hl.1 rfl (Nat.le_of_ble_eq_true rfl) dX8_set_34) (fun H locs C => ?_)
      exact gReti S hr hlk C (pr1 hm) (pr2 hm) dX8_set_37
    · rw [if_pos c4] at hm
      refine lv_iconst (v := (-1 : Int32)) S.1 S.2.1 dX8_set_15 (by decide) ?_
      exact gReti S hr hlk C (pr1 hm) (pr2 hm) dX8_set_16
def mX8_lowest_2 : Nat → Int32 → Int32 → Option Int32
  | 0, _, _ => none
  | n + 1, x0, x1 => if ((x0 >>> (x1 &&& 31)) &&& (1 : Int32)) = 0 then (nmd (x1 + (1 : Int32)) fun y2 => mX8_lowest_2 n x0 y2) else (some x1)
def mX8_lowest (x0 : Int32) : Option Int32 := mX8_lowest_2 FU x0 (0 : Int32)
set_option maxHeartbeats 4000000 in
set_option maxRecDepth 100000 in
theorem wX8_lowest_2 {p : Program} {l : Launch} {e : Env} {s : State} {m : MethodId} {args : Array Value} {below : List Frame} {meth : Method} {c : Code} {D : va_G} {cy : gCy} {ad : Nat → Nat} {M : gMem} {r0 : Int32} (S : CallFix p m c cX8_lowest 2 s args wsX8_lowest RX8) (hr : meth.sig.returnType = (some .int)) (hlk : meth.locks = false) : ∀ (n : Nat), ∀ (H : Heap) (locs : List Loc), gW shR D cy ad s s.heap M H locs → ∀ (x0 : Int32) (x1 : Int32), ∀ (ls : Array Slot), lv_has ls 2 [(0, .int x0), (1, .int x1)] → mX8_lowest_2 n x0 x1 = some r0 → W p l e (gR 0 0) s m args below meth c H locs 0 0 (MQ below (gQi shR D cy ad r0 M) args s 0 0 (gA shR ad)) (F0 m 2 ls []) := by
  intro n
  induction n with
  | zero => intro H locs C x0 x1 ls hl hm; exact absurd hm (by simp [mX8_lowest_2])
  | succ n ih =>
    intro H locs C x0 x1 ls hl hm
    rw [mX8_lowest_2] at hm
    refine lv_iload_n S.1 S.2.1 dX8_lowest_2 rfl (lv_at hl 0 rfl) ?_
    refine lv_iload_n S.1 S.2.1 dX8_lowest_3 rfl (lv_at hl 1 rfl) ?_
    refine lv_ishr S.1 S.2.1 dX8_lowest_4 ?_
    refine lv_iconst (v := (1 : Int32)) S.1 S.2.1 dX8_lowest_5 (by decide) ?_
    refine lv_iand S.1 S.2.1 dX8_lowest_6 ?_
    refine lv_if_ne (tgt := 16) S.1 S.2.1 dX8_lowest_7 (by decide) (fun c1 => ?_) (fun c1 => ?_)
    · rw [if_neg c1] at hm
      refine lv_iload_n S.1 S.2.1 dX8_lowest_16 rfl (lv_at hl 1 rfl) ?_
      exact gReti S hr hlk C (Option.some.inj hm) rfl dX8_lowest_17
    · rw [if_pos c1] at hm
      obtain ⟨y2, ey2, hm⟩ := nmd_ok hm
      refine lv_iinc (v := y2) (lv' := [(1, .int y2), (0, .int x0)]) S.1 S.2.1 dX8_lowest_10 hl (k := 1) rfl (by rw [ey2]; rfl) (by decide) rfl (fun ls hl => ?_)
      refine lv_goto (tgt := 2) S.1 S.2.1 dX8_lowest_13 (by decide) ?_
      exact ih _ _ C x0 y2 ls (lv_sub hl [1, 0] rfl) hm
set_option maxHeartbeats 4000000 in
set_option maxRecDepth 100000 in
theorem c_X8_lowest (l : Launch) (D : va_G) (cy : gCy) (ad : Nat → Nat) (M : gMem) (x0 : Int32) (r0 : Int32) (hm : mX8_lowest x0 = some r0) : Met l yX8_lowest wsX8_lowest (gR 0 0) (va_Pc [.int x0] (gP shR D cy ad M)) (gQi shR D cy ad r0 M) 0 0 (gA shR ad) := by
  refine gEnter (cc := cX8_lowest) (maxL := 2) (ret := (some .int)) (by decide) rfl (Nat.le_of_ble_eq_true rfl) ?_
  intro p e s m below meth c ls S hr hlk C hl
  have S : CallFix p m c cX8_lowest 2 s _ wsX8_lowest RX8 := S
  have hl : lv_has ls 2 [(0, .int x0)] := hl
  rw [mX8_lowest] at hm
  refine lv_iconst (v := (0 : Int32)) S.1 S.2.1 dX8_lowest_0 (by decide) ?_
  refine lv_istore_n (lv' := [(1, .int (0 : Int32)), (0, .int x0)]) S.1 S.2.1 dX8_lowest_1 rfl hl (by decide) rfl (fun ls hl => ?_)
  exact wX8_lowest_2 S hr hlk FU _ _ C x0 (0 : Int32) ls (lv_sub hl [1, 0] rfl) hm
