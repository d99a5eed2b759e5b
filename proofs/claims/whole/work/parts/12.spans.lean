theorem kiX3_last_X3 : ∀ w ∈ wsX30, w ∈ wsX3_last := by decide +kernel
theorem kfX3_last_22 : Cond.fieldLink RX3 22 "PrefixLeader$Spans" "size" "I" ∈ wsX3_last := by decide +kernel
theorem kcX3_last_53 : Cond.constantLong RX3 53 (4294967295 : Int64) ∈ wsX3_last := by decide +kernel
theorem kfX3_last_11 : Cond.fieldLink RX3 11 "PrefixLeader$Spans" "first" "[J" ∈ wsX3_last := by decide +kernel
theorem kiX3_reach_X3 : ∀ w ∈ wsX30, w ∈ wsX3_reach := by decide +kernel
theorem kfX3_reach_26 : Cond.fieldLink RX3 26 "PrefixLeader$Spans" "reached" "J" ∈ wsX3_reach := by decide +kernel
theorem kfX3_reach_22 : Cond.fieldLink RX3 22 "PrefixLeader$Spans" "size" "I" ∈ wsX3_reach := by decide +kernel
theorem kfX3_reach_15 : Cond.fieldLink RX3 15 "PrefixLeader$Spans" "goal" "[I" ∈ wsX3_reach := by decide +kernel
theorem kfX3_reach_11 : Cond.fieldLink RX3 11 "PrefixLeader$Spans" "first" "[J" ∈ wsX3_reach := by decide +kernel
theorem kiX3_reachStart_X3 : ∀ w ∈ wsX30, w ∈ wsX3_reachStart := by decide +kernel
theorem kfX3_reachStart_30 : Cond.fieldLink RX3 30 "PrefixLeader$Spans" "opened" "I" ∈ wsX3_reachStart := by decide +kernel
theorem kfX3_reachStart_19 : Cond.fieldLink RX3 19 "PrefixLeader$Spans" "open" "[I" ∈ wsX3_reachStart := by decide +kernel
theorem kiX3_reachStart_X2 : ∀ w ∈ wsX20, w ∈ wsX3_reachStart := by decide +kernel
theorem kfX3_reachStart_48 : Cond.fieldLink RX3 48 "PrefixLeader$Lines" "goal" "[I" ∈ wsX3_reachStart := by decide +kernel
theorem kiX3_measure_X3 : ∀ w ∈ wsX30, w ∈ wsX3_measure := by decide +kernel
theorem kfX3_measure_22 : Cond.fieldLink RX3 22 "PrefixLeader$Spans" "size" "I" ∈ wsX3_measure := by decide +kernel
theorem kfX3_measure_26 : Cond.fieldLink RX3 26 "PrefixLeader$Spans" "reached" "J" ∈ wsX3_measure := by decide +kernel
theorem kfX3_measure_30 : Cond.fieldLink RX3 30 "PrefixLeader$Spans" "opened" "I" ∈ wsX3_measure := by decide +kernel
theorem kiX3_measure_X2 : ∀ w ∈ wsX20, w ∈ wsX3_measure := by decide +kernel
theorem kfX3_measure_33 : Cond.fieldLink RX3 33 "PrefixLeader$Lines" "size" "I" ∈ wsX3_measure := by decide +kernel
theorem kcX3_measure_43 : Cond.constantLong RX3 43 (4294967296 : Int64) ∈ wsX3_measure := by decide +kernel
theorem kfX3_measure_19 : Cond.fieldLink RX3 19 "PrefixLeader$Spans" "open" "[I" ∈ wsX3_measure := by decide +kernel
theorem kcX3_tell_55 : Cond.constantLong RX3 55 (-1 : Int64) ∈ wsX3_tell := by decide +kernel
theorem kiX3_tell_X3 : ∀ w ∈ wsX30, w ∈ wsX3_tell := by decide +kernel
theorem kfX3_tell_22 : Cond.fieldLink RX3 22 "PrefixLeader$Spans" "size" "I" ∈ wsX3_tell := by decide +kernel
theorem kfX3_tell_11 : Cond.fieldLink RX3 11 "PrefixLeader$Spans" "first" "[J" ∈ wsX3_tell := by decide +kernel
theorem kfX3_tell_15 : Cond.fieldLink RX3 15 "PrefixLeader$Spans" "goal" "[I" ∈ wsX3_tell := by decide +kernel
theorem kiX3_addressesTo_X3 : ∀ w ∈ wsX30, w ∈ wsX3_addressesTo := by decide +kernel
theorem kfX3_addressesTo_22 : Cond.fieldLink RX3 22 "PrefixLeader$Spans" "size" "I" ∈ wsX3_addressesTo := by decide +kernel
theorem kfX3_addressesTo_15 : Cond.fieldLink RX3 15 "PrefixLeader$Spans" "goal" "[I" ∈ wsX3_addressesTo := by decide +kernel
theorem kfX3_addressesTo_11 : Cond.fieldLink RX3 11 "PrefixLeader$Spans" "first" "[J" ∈ wsX3_addressesTo := by decide +kernel
def mX3_last (M : gMem) (x0 : Nat) (x1 : Int32) : Option Int64 := if (M.1 x0 2) ≤ (x1 + (1 : Int32)) then (some (4294967295 : Int64)) else (ck (inb (x1 + (1 : Int32)) 129) <| some ((M.2 (x0 + 1) (x1 + (1 : Int32)).toNatClampNeg) - (1 : Int64)))
set_option maxHeartbeats 4000000 in
set_option maxRecDepth 100000 in
theorem c_X3_last (l : Launch) (D : va_G) (cy : gCy) (ad : Nat → Nat) (M : gMem) (x0 : Nat) (hL0 : isS x0) (x1 : Int32) (r0 : Int64) (hm : mX3_last M x0 x1 = some r0) : Met l yX3_last wsX3_last (gR 0 0) (va_Pc [.ref (ad x0), .int x1] (gP shC D cy ad M)) (gQl shC D cy ad r0 M) 0 0 (gA shC ad) := by
  refine gEnter (cc := cX3_last) (maxL := 2) (ret := (some .long)) (by decide) rfl (Nat.le_of_ble_eq_true rfl) ?_
  intro p e s m below meth c ls S hr hlk C hl
  have S : CallFix p m c cX3_last 2 s _ wsX3_last RX3 := S
  have hl : lv_has ls 2 [(0, .ref (ad x0)), (1, .int x1)] := hl
  rw [mX3_last] at hm
  refine lv_iload_n S.1 S.2.1 dX3_last_0 rfl (lv_at hl 1 rfl) ?_
  refine lv_iconst (v := (1 : Int32)) S.1 S.2.1 dX3_last_1 (by decide) ?_
  refine lv_iadd S.1 S.2.1 dX3_last_2 ?_
  refine lv_aload_n S.1 S.2.1 dX3_last_3 rfl (lv_at hl 0 rfl) ?_
  refine g_get (k := x0) (ci := 3) (f := 2) (v := .int (M.1 x0 2))  S C kiX3_last_X3 kfX3_last_22 rfl (by decide) hL0.1 rfl rfl dX3_last_4 ?_
  refine lv_icmp_ge (tgt := 23) S.1 S.2.1 dX3_last_7 (by decide) (fun c1 => ?_) (fun c1 => ?_)
  · rw [if_pos c1] at hm
    refine lv_ldc2 (v := (4294967295 : Int64)) S.1 S.2.1 S.2.2.2.1 (S.2.2.2.2 _ kcX3_last_53) dX3_last_23 ?_
    exact gRetl S hr hlk C (Option.some.inj hm) rfl dX3_last_26
  · rw [if_neg c1] at hm
    refine lv_aload_n S.1 S.2.1 dX3_last_10 rfl (lv_at hl 0 rfl) ?_
    refine g_get (k := x0) (ci := 3) (f := 0) (v := .ref (ad (x0 + 1)))  S C kiX3_last_X3 kfX3_last_11 rfl (by decide) hL0.1 rfl rfl dX3_last_11 ?_
    refine lv_iload_n S.1 S.2.1 dX3_last_14 rfl (lv_at hl 1 rfl) ?_
    refine lv_iconst (v := (1 : Int32)) S.1 S.2.1 dX3_last_15 (by decide) ?_
    refine lv_iadd S.1 S.2.1 dX3_last_16 ?_
    obtain ⟨h2, hm⟩ := ck_ok hm
    refine g_lald S C (k := (x0 + 1)) (hL0).2.1 h2 dX3_last_17 ?_
    refine lv_lconst (v := (1 : Int64)) S.1 S.2.1 dX3_last_18 (by decide) ?_
    refine lv_lsub S.1 S.2.1 dX3_last_19 ?_
    refine lv_goto (tgt := 26) S.1 S.2.1 dX3_last_20 (by decide) ?_
    exact gRetl S hr hlk C (Option.some.inj hm) rfl dX3_last_26
def mX3_reach_37 (M : gMem) (x0 : Nat) (x1 : Int64) (x3 : Int32) (z0 : Int32) : Option gMem := if z0 = 0 then (if (129 : Int32) ≤ (M.1 x0 2) then (nmd (sJ M x0 3 x1) fun M4 => some M4) else (ck (inb (M.1 x0 2) 129) <| nmd (sJ M (x0 + 1) (M.1 x0 2).toNatClampNeg (M.2 x0 3)) fun M6 => ck (inb (M6.1 x0 2) 129) <| nmd (sI M6 (x0 + 2) (M6.1 x0 2).toNatClampNeg x3) fun M8 => nmd (sI M8 x0 2 ((M8.1 x0 2) + (1 : Int32))) fun M9 => nmd (sJ M9 x0 3 x1) fun M10 => some M10)) else (nmd (sJ M x0 3 x1) fun M2 => some M2)
def mX3_reach (M : gMem) (x0 : Nat) (x1 : Int64) (x3 : Int32) : Option gMem := if (M.2 x0 3) < x1 then (if (M.1 x0 2) ≤ 0 then (mX3_reach_37 M x0 x1 x3 (0 : Int32)) else (ck (inb ((M.1 x0 2) - (1 : Int32)) 129) <| if (M.1 (x0 + 2) ((M.1 x0 2) - (1 : Int32)).toNatClampNeg) = x3 then (mX3_reach_37 M x0 x1 x3 (1 : Int32)) else (mX3_reach_37 M x0 x1 x3 (0 : Int32)))) else (some M)
set_option maxHeartbeats 4000000 in
set_option maxRecDepth 100000 in
theorem wX3_reach_37 {p : Program} {l : Launch} {e : Env} {s : State} {m : MethodId} {args : Array Value} {below : List Frame} {meth : Method} {c : Code} {D : va_G} {cy : gCy} {ad : Nat → Nat} {r0 : gMem} (S : CallFix p m c cX3_reach 5 s args wsX3_reach RX3) (hr : meth.sig.returnType = none) (hlk : meth.locks = false) : ∀ (M : gMem) (H : Heap) (locs : List Loc), gW shC D cy ad s s.heap M H locs → ∀ (x0 : Nat) (hL0 : isS x0) (x1 : Int64) (x3 : Int32) (z0 : Int32), ∀ (ls : Array Slot), lv_has ls 5 [(0, .ref (ad x0)), (1, .long x1), (3, .int x3)] → mX3_reach_37 M x0 x1 x3 z0 = some r0 → W p l e (gR 0 0) s m args below meth c H locs 0 0 (MQ below (gQv shC D cy ad r0) args s 0 0 (gA shC ad)) (F0 m 37 ls [.int z0]) := by
  intro M H locs C x0 hL0 x1 x3 z0 ls hl hm
  rw [mX3_reach_37] at hm
  refine lv_istore (lv' := [(4, .int z0), (0, .ref (ad x0)), (1, .long x1), (3, .int x3)]) S.1 S.2.1 dX3_reach_37 hl (by decide) rfl (fun ls hl => ?_)
  refine lv_iload S.1 S.2.1 dX3_reach_39 (lv_at hl 0 rfl) ?_
  refine lv_if_ne (tgt := 87) S.1 S.2.1 dX3_reach_41 (by decide) (fun c1 => ?_) (fun c1 => ?_)
  · rw [if_neg c1] at hm
    refine lv_aload_n S.1 S.2.1 dX3_reach_87 rfl (lv_at hl 1 rfl) ?_
    refine lv_lload_n S.1 S.2.1 dX3_reach_88 rfl (lv_at hl 2 rfl) ?_
    obtain ⟨M2, eM2, hm⟩ := nmd_ok hm
    refine g_put (M' := (sJ M x0 3 x1)) (k := x0) (ci := 3) (f := 3) (v := .long x1) (ty := .long) S C kiX3_reach_X3 tyX3 tyX3_ok nmX3 kfX3_reach_26 rfl (by decide) rfl (by decide +kernel) rfl rfl hL0.1 rfl (Nat.le_of_ble_eq_true rfl) (by rw [sJ_at]; rfl) sJ_off dX3_reach_89 (fun H locs C => ?_)
    rw [← eM2] at C
    exact gRetv S hr hlk C (Option.some.inj hm) dX3_reach_92
  · rw [if_pos c1] at hm
    refine lv_aload_n S.1 S.2.1 dX3_reach_44 rfl (lv_at hl 1 rfl) ?_
    refine g_get (k := x0) (ci := 3) (f := 2) (v := .int (M.1 x0 2))  S C kiX3_reach_X3 kfX3_reach_22 rfl (by decide) hL0.1 rfl rfl dX3_reach_45 ?_
    refine lv_sipush (v := (129 : Int32)) S.1 S.2.1 dX3_reach_48 (by decide) ?_
    refine lv_icmp_ge (tgt := 87) S.1 S.2.1 dX3_reach_51 (by decide) (fun c3 => ?_) (fun c3 => ?_)
    · rw [if_pos c3] at hm
      refine lv_aload_n S.1 S.2.1 dX3_reach_87 rfl (lv_at hl 1 rfl) ?_
      refine lv_lload_n S.1 S.2.1 dX3_reach_88 rfl (lv_at hl 2 rfl) ?_
      obtain ⟨M4, eM4, hm⟩ := nmd_ok hm
      refine g_put (M' := (sJ M x0 3 x1)) (k := x0) (ci := 3) (f := 3) (v := .long x1) (ty := .long) S C kiX3_reach_X3 tyX3 tyX3_ok nmX3 kfX3_reach_26 rfl (by decide) rfl (by decide +kernel) rfl rfl hL0.1 rfl (Nat.le_of_ble_eq_true rfl) (by rw [sJ_at]; rfl) sJ_off dX3_reach_89 (fun H locs C => ?_)
      rw [← eM4] at C
      exact gRetv S hr hlk C (Option.some.inj hm) dX3_reach_92
    · rw [if_neg c3] at hm
      refine lv_aload_n S.1 S.2.1 dX3_reach_54 rfl (lv_at hl 1 rfl) ?_
      refine g_get (k := x0) (ci := 3) (f := 0) (v := .ref (ad (x0 + 1)))  S C kiX3_reach_X3 kfX3_reach_11 rfl (by decide) hL0.1 rfl rfl dX3_reach_55 ?_
      refine lv_aload_n S.1 S.2.1 dX3_reach_58 rfl (lv_at hl 1 rfl) ?_
      refine g_get (k := x0) (ci := 3) (f := 2) (v := .int (M.1 x0 2))  S C kiX3_reach_X3 kfX3_reach_22 rfl (by decide) hL0.1 rfl rfl dX3_reach_59 ?_
      refine lv_aload_n S.1 S.2.1 dX3_reach_62 rfl (lv_at hl 1 rfl) ?_
      refine g_get (k := x0) (ci := 3) (f := 3) (v := .long (M.2 x0 3))  S C kiX3_reach_X3 kfX3_reach_26 rfl (by decide) hL0.1 rfl rfl dX3_reach_63 ?_
      obtain ⟨h5, hm⟩ := ck_ok hm
      obtain ⟨M6, eM6, hm⟩ := nmd_ok hm
      refine g_last S C (k := (x0 + 1)) (hL0).2.1 h5 dX3_reach_66 (fun H locs C => ?_)
      rw [← eM6] at C
      refine lv_aload_n S.1 S.2.1 dX3_reach_67 rfl (lv_at hl 1 rfl) ?_
      refine g_get (k := x0) (ci := 3) (f := 1) (v := .ref (ad (x0 + 2)))  S C kiX3_reach_X3 kfX3_reach_15 rfl (by decide) hL0.1 rfl rfl dX3_reach_68 ?_
      refine lv_aload_n S.1 S.2.1 dX3_reach_71 rfl (lv_at hl 1 rfl) ?_
      refine g_get (k := x0) (ci := 3) (f := 2) (v := .int (M6.1 x0 2))  S C kiX3_reach_X3 kfX3_reach_22 rfl (by decide) hL0.1 rfl rfl dX3_reach_72 ?_
      refine lv_iload_n S.1 S.2.1 dX3_reach_75 rfl (lv_at hl 3 rfl) ?_
      obtain ⟨h7, hm⟩ := ck_ok hm
      obtain ⟨M8, eM8, hm⟩ := nmd_ok hm
      refine g_iast S C (k := (x0 + 2)) (hL0).2.2.1 h7 dX3_reach_76 (fun H locs C => ?_)
      rw [← eM8] at C
      refine lv_aload_n S.1 S.2.1 dX3_reach_77 rfl (lv_at hl 1 rfl) ?_
      refine lv_dup S.1 S.2.1 dX3_reach_78 rfl ?_
      refine g_get (k := x0) (ci := 3) (f := 2) (v := .int (M8.1 x0 2))  S C kiX3_reach_X3 kfX3_reach_22 rfl (by decide) hL0.1 rfl rfl dX3_reach_79 ?_
      refine lv_iconst (v := (1 : Int32)) S.1 S.2.1 dX3_reach_82 (by decide) ?_
      refine lv_iadd S.1 S.2.1 dX3_reach_83 ?_
      obtain ⟨M9, eM9, hm⟩ := nmd_ok hm
      refine g_put (M' := (sI M8 x0 2 ((M8.1 x0 2) + (1 : Int32)))) (k := x0) (ci := 3) (f := 2) (v := .int ((M8.1 x0 2) + (1 : Int32))) (ty := .int) S C kiX3_reach_X3 tyX3 tyX3_ok nmX3 kfX3_reach_22 rfl (by decide) rfl (by decide +kernel) rfl rfl hL0.1 rfl (Nat.le_of_ble_eq_true rfl) (by rw [sI_at]; rfl) sI_off dX3_reach_84 (fun H locs C => ?_)
      rw [← eM9] at C
      refine lv_aload_n S.1 S.2.1 dX3_reach_87 rfl (lv_at hl 1 rfl) ?_
      refine lv_lload_n S.1 S.2.1 dX3_reach_88 rfl (lv_at hl 2 rfl) ?_
      obtain ⟨M10, eM10, hm⟩ := nmd_ok hm
      refine g_put (M' := (sJ M9 x0 3 x1)) (k := x0) (ci := 3) (f := 3) (v := .long x1) (ty := .long) S C kiX3_reach_X3 tyX3 tyX3_ok nmX3 kfX3_reach_26 rfl (by decide) rfl (by decide +kernel) rfl rfl hL0.1 rfl (Nat.le_of_ble_eq_true rfl) (by rw [sJ_at]; rfl) sJ_off dX3_reach_89 (fun H locs C => ?_)
      rw [← eM10] at C
      exact gRetv S hr hlk C (Option.some.inj hm) dX3_reach_92
set_option maxHeartbeats 4000000 in
set_option maxRecDepth 100000 in
theorem c_X3_reach (l : Launch) (D : va_G) (cy : gCy) (ad : Nat → Nat) (M : gMem) (x0 : Nat) (hL0 : isS x0) (x1 : Int64) (x3 : Int32) (r0 : gMem) (hm : mX3_reach M x0 x1 x3 = some r0) : Met l yX3_reach wsX3_reach (gR 0 0) (va_Pc [.ref (ad x0), .long x1, .int x3] (gP shC D cy ad M)) (gQv shC D cy ad r0) 0 0 (gA shC ad) := by
  refine gEnter (cc := cX3_reach) (maxL := 5) (ret := none) (by decide) rfl (Nat.le_of_ble_eq_true rfl) ?_
  intro p e s m below meth c ls S hr hlk C hl
  have S : CallFix p m c cX3_reach 5 s _ wsX3_reach RX3 := S
  have hl : lv_has ls 5 [(0, .ref (ad x0)), (1, .long x1), (3, .int x3)] := hl
  rw [mX3_reach] at hm
  refine lv_lload_n S.1 S.2.1 dX3_reach_0 rfl (lv_at hl 1 rfl) ?_
  refine lv_aload_n S.1 S.2.1 dX3_reach_1 rfl (lv_at hl 0 rfl) ?_
  refine g_get (k := x0) (ci := 3) (f := 3) (v := .long (M.2 x0 3))  S C kiX3_reach_X3 kfX3_reach_26 rfl (by decide) hL0.1 rfl rfl dX3_reach_2 ?_
  refine W.lcmp S.1 S.2.1 dX3_reach_5 ?_
  refine lv_if_gt (tgt := 10) S.1 S.2.1 dX3_reach_6 (by decide) (fun c1 => ?_) (fun c1 => ?_)
  · rw [if_pos (cmp_gt.mp c1)] at hm
    refine lv_aload_n S.1 S.2.1 dX3_reach_10 rfl (lv_at hl 0 rfl) ?_
    refine g_get (k := x0) (ci := 3) (f := 2) (v := .int (M.1 x0 2))  S C kiX3_reach_X3 kfX3_reach_22 rfl (by decide) hL0.1 rfl rfl dX3_reach_11 ?_
    refine lv_if_le (tgt := 36) S.1 S.2.1 dX3_reach_14 (by decide) (fun c2 => ?_) (fun c2 => ?_)
    · rw [if_pos c2] at hm
      refine lv_iconst (v := (0 : Int32)) S.1 S.2.1 dX3_reach_36 (by decide) ?_
      exact wX3_reach_37 S hr hlk M _ _ C x0 hL0 x1 x3 (0 : Int32) ls (lv_sub hl [0, 1, 2] rfl) hm
    · rw [if_neg c2] at hm
      refine lv_aload_n S.1 S.2.1 dX3_reach_17 rfl (lv_at hl 0 rfl) ?_
      refine g_get (k := x0) (ci := 3) (f := 1) (v := .ref (ad (x0 + 2)))  S C kiX3_reach_X3 kfX3_reach_15 rfl (by decide) hL0.1 rfl rfl dX3_reach_18 ?_
      refine lv_aload_n S.1 S.2.1 dX3_reach_21 rfl (lv_at hl 0 rfl) ?_
      refine g_get (k := x0) (ci := 3) (f := 2) (v := .int (M.1 x0 2))  S C kiX3_reach_X3 kfX3_reach_22 rfl (by decide) hL0.1 rfl rfl dX3_reach_22 ?_
      refine lv_iconst (v := (1 : Int32)) S.1 S.2.1 dX3_reach_25 (by decide) ?_
      refine lv_isub S.1 S.2.1 dX3_reach_26 ?_
      obtain ⟨h3, hm⟩ := ck_ok hm
      refine g_iald S C (k := (x0 + 2)) (hL0).2.2.1 h3 dX3_reach_27 ?_
      refine lv_iload_n S.1 S.2.1 dX3_reach_28 rfl (lv_at hl 2 rfl) ?_
      refine lv_icmp_ne (tgt := 36) S.1 S.2.1 dX3_reach_29 (by decide) (fun c4 => ?_) (fun c4 => ?_)
      · rw [if_neg c4] at hm
        refine lv_iconst (v := (0 : Int32)) S.1 S.2.1 dX3_reach_36 (by decide) ?_
        exact wX3_reach_37 S hr hlk M _ _ C x0 hL0 x1 x3 (0 : Int32) ls (lv_sub hl [0, 1, 2] rfl) hm
      · rw [if_pos c4] at hm
        refine lv_iconst (v := (1 : Int32)) S.1 S.2.1 dX3_reach_32 (by decide) ?_
        refine lv_goto (tgt := 37) S.1 S.2.1 dX3_reach_33 (by decide) ?_
        exact wX3_reach_37 S hr hlk M _ _ C x0 hL0 x1 x3 (1 : Int32) ls (lv_sub hl [0, 1, 2] rfl) hm
  · rw [if_neg (fun q => c1 (cmp_gt.mpr q))] at hm
    exact gRetv S hr hlk C (Option.some.inj hm) dX3_reach_9
def mX3_reachStart_73 (M : gMem) (x0 : Nat) (x1 : Nat) (x2 : Int64) : Option gMem := if (M.1 x0 5) ≤ 0 then ((mX3_reach M x0 x2 (16 : Int32)).bind fun r2 => some r2) else (ck (inb ((M.1 x0 5) - (1 : Int32)) 33) <| ck (inb (M.1 (x0 + 3) ((M.1 x0 5) - (1 : Int32)).toNatClampNeg) (lnOf x1)) <| (mX3_reach M x0 x2 (M.1 (x1 + 3) (M.1 (x0 + 3) ((M.1 x0 5) - (1 : Int32)).toNatClampNeg).toNatClampNeg)).bind fun r5 => some r5)
def mX3_reachStart_0 : Nat → gMem → Nat → Nat → Int64 → Option gMem
  | 0, _, _, _, _ => none
  | n + 1, M, x0, x1, x2 => if (M.1 x0 5) ≤ 0 then (mX3_reachStart_73 M x0 x1 x2) else (ck (inb ((M.1 x0 5) - (1 : Int32)) 33) <| (mX2_last M x1 (M.1 (x0 + 3) ((M.1 x0 5) - (1 : Int32)).toNatClampNeg)).bind fun r3 => if x2 ≤ r3 then (mX3_reachStart_73 M x0 x1 x2) else (nmd (sI M x0 5 ((M.1 x0 5) - (1 : Int32))) fun M5 => ck (inb (M5.1 x0 5) 33) <| (mX2_last M5 x1 (M5.1 (x0 + 3) (M5.1 x0 5).toNatClampNeg)).bind fun r7 => ck (inb (M5.1 x0 5) 33) <| ck (inb (M5.1 (x0 + 3) (M5.1 x0 5).toNatClampNeg) (lnOf x1)) <| (mX3_reach M5 x0 (r7 + (1 : Int64)) (M5.1 (x1 + 3) (M5.1 (x0 + 3) (M5.1 x0 5).toNatClampNeg).toNatClampNeg)).bind fun r10 => mX3_reachStart_0 n r10 x0 x1 x2))
def mX3_reachStart (M : gMem) (x0 : Nat) (x1 : Nat) (x2 : Int64) : Option gMem := mX3_reachStart_0 FU M x0 x1 x2
set_option maxHeartbeats 4000000 in
set_option maxRecDepth 100000 in
theorem wX3_reachStart_73 {p : Program} {l : Launch} {e : Env} {s : State} {m : MethodId} {args : Array Value} {below : List Frame} {meth : Method} {c : Code} {D : va_G} {cy : gCy} {ad : Nat → Nat} {r0 : gMem} (S : CallFix p m c cX3_reachStart 4 s args wsX3_reachStart RX3) (hr : meth.sig.returnType = none) (hlk : meth.locks = false) : ∀ (M : gMem) (H : Heap) (locs : List Loc), gW shC D cy ad s s.heap M H locs → ∀ (x0 : Nat) (hL0 : isS x0) (x1 : Nat) (hL1 : isL x1) (x2 : Int64), ∀ (ls : Array Slot), lv_has ls 4 [(0, .ref (ad x0)), (1, .ref (ad x1)), (2, .long x2)] → mX3_reachStart_73 M x0 x1 x2 = some r0 → W p l e (gR 3 64) s m args below meth c H locs 0 0 (MQ below (gQv shC D cy ad r0) args s 0 0 (gA shC ad)) (F0 m 73 ls []) := by
  intro M H locs C x0 hL0 x1 hL1 x2 ls hl hm
  rw [mX3_reachStart_73] at hm
  refine lv_aload_n S.1 S.2.1 dX3_reachStart_73 rfl (lv_at hl 0 rfl) ?_
  refine lv_lload_n S.1 S.2.1 dX3_reachStart_74 rfl (lv_at hl 2 rfl) ?_
  refine lv_aload_n S.1 S.2.1 dX3_reachStart_75 rfl (lv_at hl 0 rfl) ?_
  refine g_get (k := x0) (ci := 3) (f := 5) (v := .int (M.1 x0 5))  S C kiX3_reachStart_X3 kfX3_reachStart_30 rfl (by decide) hL0.1 rfl rfl dX3_reachStart_76 ?_
  refine lv_if_le (tgt := 101) S.1 S.2.1 dX3_reachStart_79 (by decide) (fun c1 => ?_) (fun c1 => ?_)
  · rw [if_pos c1] at hm
    refine lv_bipush (v := (16 : Int32)) S.1 S.2.1 dX3_reachStart_101 (by decide) ?_
    obtain ⟨r2, hcr2, hm⟩ := bd_ok hm
    refine gC_v C (gRV (k := x0) (ci := 3) (r := (RX3, TX3, 6)) (As := [.long x2, .int (16 : Int32)]) (rest := []) 2 S C (c_X3_reach l D cy ad M x0 hL0 x2 (16 : Int32) r2 hcr2) gX3_reachStart_X3_reach rfl (by decide +kernel) (by decide) hL0.1 rfl rfl rfl hl.1 rfl (Nat.le_of_ble_eq_true rfl) dX3_reachStart_103) (fun H locs C => ?_)
    exact gRetv S hr hlk C (Option.some.inj hm) dX3_reachStart_106
  · rw [if_neg c1] at hm
    refine lv_aload_n S.1 S.2.1 dX3_reachStart_82 rfl (lv_at hl 1 rfl) ?_
    refine g_get (k := x1) (ci := 2) (f := 2) (v := .ref (ad (x1 + 3)))  S C kiX3_reachStart_X2 kfX3_reachStart_48 rfl (by decide) hL1.1 rfl rfl dX3_reachStart_83 ?_
    refine lv_aload_n S.1 S.2.1 dX3_reachStart_86 rfl (lv_at hl 0 rfl) ?_
    refine g_get (k := x0) (ci := 3) (f := 4) (v := .ref (ad (x0 + 3)))  S C kiX3_reachStart_X3 kfX3_reachStart_19 rfl (by decide) hL0.1 rfl rfl dX3_reachStart_87 ?_
    refine lv_aload_n S.1 S.2.1 dX3_reachStart_90 rfl (lv_at hl 0 rfl) ?_
    refine g_get (k := x0) (ci := 3) (f := 5) (v := .int (M.1 x0 5))  S C kiX3_reachStart_X3 kfX3_reachStart_30 rfl (by decide) hL0.1 rfl rfl dX3_reachStart_91 ?_
    refine lv_iconst (v := (1 : Int32)) S.1 S.2.1 dX3_reachStart_94 (by decide) ?_
    refine lv_isub S.1 S.2.1 dX3_reachStart_95 ?_
    obtain ⟨h3, hm⟩ := ck_ok hm
    refine g_iald S C (k := (x0 + 3)) (hL0).2.2.2 h3 dX3_reachStart_96 ?_
    obtain ⟨h4, hm⟩ := ck_ok hm
    refine g_iald S C (k := (x1 + 3)) (hL1).2.2.2 h4 dX3_reachStart_97 ?_
    refine lv_goto (tgt := 103) S.1 S.2.1 dX3_reachStart_98 (by decide) ?_
    obtain ⟨r5, hcr5, hm⟩ := bd_ok hm
    refine gC_v C (gRV (k := x0) (ci := 3) (r := (RX3, TX3, 6)) (As := [.long x2, .int (M.1 (x1 + 3) (M.1 (x0 + 3) ((M.1 x0 5) - (1 : Int32)).toNatClampNeg).toNatClampNeg)]) (rest := []) 2 S C (c_X3_reach l D cy ad M x0 hL0 x2 (M.1 (x1 + 3) (M.1 (x0 + 3) ((M.1 x0 5) - (1 : Int32)).toNatClampNeg).toNatClampNeg) r5 hcr5) gX3_reachStart_X3_reach rfl (by decide +kernel) (by decide) hL0.1 rfl rfl rfl hl.1 rfl (Nat.le_of_ble_eq_true rfl) dX3_reachStart_103) (fun H locs C => ?_)
    exact gRetv S hr hlk C (Option.some.inj hm) dX3_reachStart_106
set_option maxHeartbeats 4000000 in
set_option maxRecDepth 100000 in
theorem wX3_reachStart_0 {p : Program} {l : Launch} {e : Env} {s : State} {m : MethodId} {args : Array Value} {below : List Frame} {meth : Method} {c : Code} {D : va_G} {cy : gCy} {ad : Nat → Nat} {r0 : gMem} (S : CallFix p m c cX3_reachStart 4 s args wsX3_reachStart RX3) (hr : meth.sig.returnType = none) (hlk : meth.locks = false) : ∀ (n : Nat), ∀ (M : gMem) (H : Heap) (locs : List Loc), gW shC D cy ad s s.heap M H locs → ∀ (x0 : Nat) (hL0 : isS x0) (x1 : Nat) (hL1 : isL x1) (x2 : Int64), ∀ (ls : Array Slot), lv_has ls 4 [(0, .ref (ad x0)), (1, .ref (ad x1)), (2, .long x2)] → mX3_reachStart_0 n M x0 x1 x2 = some r0 → W p l e (gR 3 64) s m args below meth c H locs 0 0 (MQ below (gQv shC D cy ad r0) args s 0 0 (gA shC ad)) (F0 m 0 ls []) := by
  intro n
  induction n with
  | zero => intro M H locs C x0 hL0 x1 hL1 x2 ls hl hm; exact absurd hm (by simp [mX3_reachStart_0])
  | succ n ih =>
    intro M H locs C x0 hL0 x1 hL1 x2 ls hl hm
    rw [mX3_reachStart_0] at hm
    refine lv_aload_n S.1 S.2.1 dX3_reachStart_0 rfl (lv_at hl 0 rfl) ?_
    refine g_get (k := x0) (ci := 3) (f := 5) (v := .int (M.1 x0 5))  S C kiX3_reachStart_X3 kfX3_reachStart_30 rfl (by decide) hL0.1 rfl rfl dX3_reachStart_1 ?_
    refine lv_if_le (tgt := 73) S.1 S.2.1 dX3_reachStart_4 (by decide) (fun c1 => ?_) (fun c1 => ?_)
    · rw [if_pos c1] at hm
      exact wX3_reachStart_73 S hr hlk M _ _ C x0 hL0 x1 hL1 x2 ls (lv_sub hl [0, 1, 2] rfl) hm
    · rw [if_neg c1] at hm
      refine lv_aload_n S.1 S.2.1 dX3_reachStart_7 rfl (lv_at hl 1 rfl) ?_
      refine lv_aload_n S.1 S.2.1 dX3_reachStart_8 rfl (lv_at hl 0 rfl) ?_
      refine g_get (k := x0) (ci := 3) (f := 4) (v := .ref (ad (x0 + 3)))  S C kiX3_reachStart_X3 kfX3_reachStart_19 rfl (by decide) hL0.1 rfl rfl dX3_reachStart_9 ?_
      refine lv_aload_n S.1 S.2.1 dX3_reachStart_12 rfl (lv_at hl 0 rfl) ?_
      refine g_get (k := x0) (ci := 3) (f := 5) (v := .int (M.1 x0 5))  S C kiX3_reachStart_X3 kfX3_reachStart_30 rfl (by decide) hL0.1 rfl rfl dX3_reachStart_13 ?_
      refine lv_iconst (v := (1 : Int32)) S.1 S.2.1 dX3_reachStart_16 (by decide) ?_
      refine lv_isub S.1 S.2.1 dX3_reachStart_17 ?_
      obtain ⟨h2, hm⟩ := ck_ok hm
      refine g_iald S C (k := (x0 + 3)) (hL0).2.2.2 h2 dX3_reachStart_18 ?_
      obtain ⟨r3, hcr3, hm⟩ := bd_ok hm
      refine gC_l C (gRV (k := x1) (ci := 2) (r := (RX2, TX2, 5)) (As := [.int (M.1 (x0 + 3) ((M.1 x0 5) - (1 : Int32)).toNatClampNeg)]) (rest := []) 1 S C (c_X2_last l D cy ad M x1 hL1 (M.1 (x0 + 3) ((M.1 x0 5) - (1 : Int32)).toNatClampNeg) r3 hcr3) gX3_reachStart_X2_last rfl (by decide +kernel) (by decide) hL1.1 rfl rfl rfl hl.1 rfl (Nat.le_of_ble_eq_true rfl) dX3_reachStart_19) (fun H locs C => ?_)
      refine lv_lload_n S.1 S.2.1 dX3_reachStart_22 rfl (lv_at hl 2 rfl) ?_
      refine W.lcmp S.1 S.2.1 dX3_reachStart_23 ?_
      refine lv_if_ge (tgt := 73) S.1 S.2.1 dX3_reachStart_24 (by decide) (fun c4 => ?_) (fun c4 => ?_)
      · rw [if_pos (cmp_ge.mp c4)] at hm
        exact wX3_reachStart_73 S hr hlk M _ _ C x0 hL0 x1 hL1 x2 ls (lv_sub hl [0, 1, 2] rfl) hm
      · rw [if_neg (fun q => c4 (cmp_ge.mpr q))] at hm
        refine lv_aload_n S.1 S.2.1 dX3_reachStart_27 rfl (lv_at hl 0 rfl) ?_
        refine lv_dup S.1 S.2.1 dX3_reachStart_28 rfl ?_
        refine g_get (k := x0) (ci := 3) (f := 5) (v := .int (M.1 x0 5))  S C kiX3_reachStart_X3 kfX3_reachStart_30 rfl (by decide) hL0.1 rfl rfl dX3_reachStart_29 ?_
        refine lv_iconst (v := (1 : Int32)) S.1 S.2.1 dX3_reachStart_32 (by decide) ?_
        refine lv_isub S.1 S.2.1 dX3_reachStart_33 ?_
        obtain ⟨M5, eM5, hm⟩ := nmd_ok hm
        refine g_put (M' := (sI M x0 5 ((M.1 x0 5) - (1 : Int32)))) (k := x0) (ci := 3) (f := 5) (v := .int ((M.1 x0 5) - (1 : Int32))) (ty := .int) S C kiX3_reachStart_X3 tyX3 tyX3_ok nmX3 kfX3_reachStart_30 rfl (by decide) rfl (by decide +kernel) rfl rfl hL0.1 rfl (Nat.le_of_ble_eq_true rfl) (by rw [sI_at]; rfl) sI_off dX3_reachStart_34 (fun H locs C => ?_)
        rw [← eM5] at C
        refine lv_aload_n S.1 S.2.1 dX3_reachStart_37 rfl (lv_at hl 0 rfl) ?_
        refine lv_aload_n S.1 S.2.1 dX3_reachStart_38 rfl (lv_at hl 1 rfl) ?_
        refine lv_aload_n S.1 S.2.1 dX3_reachStart_39 rfl (lv_at hl 0 rfl) ?_
        refine g_get (k := x0) (ci := 3) (f := 4) (v := .ref (ad (x0 + 3)))  S C kiX3_reachStart_X3 kfX3_reachStart_19 rfl (by decide) hL0.1 rfl rfl dX3_reachStart_40 ?_
        refine lv_aload_n S.1 S.2.1 dX3_reachStart_43 rfl (lv_at hl 0 rfl) ?_
        refine g_get (k := x0) (ci := 3) (f := 5) (v := .int (M5.1 x0 5))  S C kiX3_reachStart_X3 kfX3_reachStart_30 rfl (by decide) hL0.1 rfl rfl dX3_reachStart_44 ?_
        obtain ⟨h6, hm⟩ := ck_ok hm
        refine g_iald S C (k := (x0 + 3)) (hL0).2.2.2 h6 dX3_reachStart_47 ?_
        obtain ⟨r7, hcr7, hm⟩ := bd_ok hm
        refine gC_l C (gRV (k := x1) (ci := 2) (r := (RX2, TX2, 5)) (As := [.int (M5.1 (x0 + 3) (M5.1 x0 5).toNatClampNeg)]) (rest := [.ref (ad x0)]) 1 S C (c_X2_last l D cy ad M5 x1 hL1 (M5.1 (x0 + 3) (M5.1 x0 5).toNatClampNeg) r7 hcr7) gX3_reachStart_X2_last rfl (by decide +kernel) (by decide) hL1.1 rfl rfl rfl hl.1 rfl (Nat.le_of_ble_eq_true rfl) dX3_reachStart_48) (fun H locs C => ?_)
        refine lv_lconst (v := (1 : Int64)) S.1 S.2.1 dX3_reachStart_51 (by decide) ?_
        refine lv_ladd S.1 S.2.1 dX3_reachStart_52 ?_
        refine lv_aload_n S.1 S.2.1 dX3_reachStart_53 rfl (lv_at hl 1 rfl) ?_
        refine g_get (k := x1) (ci := 2) (f := 2) (v := .ref (ad (x1 + 3)))  S C kiX3_reachStart_X2 kfX3_reachStart_48 rfl (by decide) hL1.1 rfl rfl dX3_reachStart_54 ?_
        refine lv_aload_n S.1 S.2.1 dX3_reachStart_57 rfl (lv_at hl 0 rfl) ?_
        refine g_get (k := x0) (ci := 3) (f := 4) (v := .ref (ad (x0 + 3)))  S C kiX3_reachStart_X3 kfX3_reachStart_19 rfl (by decide) hL0.1 rfl rfl dX3_reachStart_58 ?_
        refine lv_aload_n S.1 S.2.1 dX3_reachStart_61 rfl (lv_at hl 0 rfl) ?_
        refine g_get (k := x0) (ci := 3) (f := 5) (v := .int (M5.1 x0 5))  S C kiX3_reachStart_X3 kfX3_reachStart_30 rfl (by decide) hL0.1 rfl rfl dX3_reachStart_62 ?_
        obtain ⟨h8, hm⟩ := ck_ok hm
        refine g_iald S C (k := (x0 + 3)) (hL0).2.2.2 h8 dX3_reachStart_65 ?_
        obtain ⟨h9, hm⟩ := ck_ok hm
        refine g_iald S C (k := (x1 + 3)) (hL1).2.2.2 h9 dX3_reachStart_66 ?_
        obtain ⟨r10, hcr10, hm⟩ := bd_ok hm
        refine gC_v C (gRV (k := x0) (ci := 3) (r := (RX3, TX3, 6)) (As := [.long (r7 + (1 : Int64)), .int (M5.1 (x1 + 3) (M5.1 (x0 + 3) (M5.1 x0 5).toNatClampNeg).toNatClampNeg)]) (rest := []) 2 S C (c_X3_reach l D cy ad M5 x0 hL0 (r7 + (1 : Int64)) (M5.1 (x1 + 3) (M5.1 (x0 + 3) (M5.1 x0 5).toNatClampNeg).toNatClampNeg) r10 hcr10) gX3_reachStart_X3_reach rfl (by decide +kernel) (by decide) hL0.1 rfl rfl rfl hl.1 rfl (Nat.le_of_ble_eq_true rfl) dX3_reachStart_67) (fun H locs C => ?_)
        refine lv_goto (tgt := 0) S.1 S.2.1 dX3_reachStart_70 (by decide) ?_
        exact ih r10 _ _ C x0 hL0 x1 hL1 x2 ls (lv_sub hl [0, 1, 2] rfl) hm
set_option maxHeartbeats 4000000 in
set_option maxRecDepth 100000 in
theorem c_X3_reachStart (l : Launch) (D : va_G) (cy : gCy) (ad : Nat → Nat) (M : gMem) (x0 : Nat) (hL0 : isS x0) (x1 : Nat) (hL1 : isL x1) (x2 : Int64) (r0 : gMem) (hm : mX3_reachStart M x0 x1 x2 = some r0) : Met l yX3_reachStart wsX3_reachStart (gR 3 64) (va_Pc [.ref (ad x0), .ref (ad x1), .long x2] (gP shC D cy ad M)) (gQv shC D cy ad r0) 0 0 (gA shC ad) := by
  refine gEnter (cc := cX3_reachStart) (maxL := 4) (ret := none) (by decide) rfl (Nat.le_of_ble_eq_true rfl) ?_
  intro p e s m below meth c ls S hr hlk C hl
  have S : CallFix p m c cX3_reachStart 4 s _ wsX3_reachStart RX3 := S
  have hl : lv_has ls 4 [(0, .ref (ad x0)), (1, .ref (ad x1)), (2, .long x2)] := hl
  rw [mX3_reachStart] at hm
  exact wX3_reachStart_0 S hr hlk FU M _ _ C x0 hL0 x1 hL1 x2 ls (lv_sub hl [0, 1, 2] rfl) hm
def mX3_measure_17 : Nat → gMem → Nat → Nat → Int32 → Option gMem
  | 0, _, _, _, _ => none
  | n + 1, M, x0, x1, x2 => if (M.1 x1 4) ≤ x2 then ((mX3_reachStart M x0 x1 (4294967296 : Int64)).bind fun r2 => some r2) else ((mX2_first M x1 x2).bind fun r3 => (mX3_reachStart M x0 x1 r3).bind fun r4 => if (33 : Int32) ≤ (r4.1 x0 5) then (nmd (x2 + (1 : Int32)) fun y6 => mX3_measure_17 n r4 x0 x1 y6) else (ck (inb (r4.1 x0 5) 33) <| nmd (sI r4 (x0 + 3) (r4.1 x0 5).toNatClampNeg x2) fun M8 => nmd (sI M8 x0 5 ((M8.1 x0 5) + (1 : Int32))) fun M9 => nmd (x2 + (1 : Int32)) fun y10 => mX3_measure_17 n M9 x0 x1 y10))
def mX3_measure (M : gMem) (x0 : Nat) (x1 : Nat) : Option gMem := nmd (sI M x0 2 (0 : Int32)) fun M1 => nmd (sJ M1 x0 3 (0 : Int64)) fun M2 => nmd (sI M2 x0 5 (0 : Int32)) fun M3 => mX3_measure_17 FU M3 x0 x1 (0 : Int32)
set_option maxHeartbeats 4000000 in
set_option maxRecDepth 100000 in
theorem wX3_measure_17 {p : Program} {l : Launch} {e : Env} {s : State} {m : MethodId} {args : Array Value} {below : List Frame} {meth : Method} {c : Code} {D : va_G} {cy : gCy} {ad : Nat → Nat} {r0 : gMem} (S : CallFix p m c cX3_measure 3 s args wsX3_measure RX3) (hr : meth.sig.returnType = none) (hlk : meth.locks = false) : ∀ (n : Nat), ∀ (M : gMem) (H : Heap) (locs : List Loc), gW shC D cy ad s s.heap M H locs → ∀ (x0 : Nat) (hL0 : isS x0) (x1 : Nat) (hL1 : isL x1) (x2 : Int32), ∀ (ls : Array Slot), lv_has ls 3 [(0, .ref (ad x0)), (1, .ref (ad x1)), (2, .int x2)] → mX3_measure_17 n M x0 x1 x2 = some r0 → W p l e (gR 4 87) s m args below meth c H locs 0 0 (MQ below (gQv shC D cy ad r0) args s 0 0 (gA shC ad)) (F0 m 17 ls []) := by
  intro n
  induction n with
  | zero => intro M H locs C x0 hL0 x1 hL1 x2 ls hl hm; exact absurd hm (by simp [mX3_measure_17])
  | succ n ih =>
    intro M H locs C x0 hL0 x1 hL1 x2 ls hl hm
    rw [mX3_measure_17] at hm
    refine lv_iload_n S.1 S.2.1 dX3_measure_17 rfl (lv_at hl 2 rfl) ?_
    refine lv_aload_n S.1 S.2.1 dX3_measure_18 rfl (lv_at hl 1 rfl) ?_
    refine g_get (k := x1) (ci := 2) (f := 4) (v := .int (M.1 x1 4))  S C kiX3_measure_X2 kfX3_measure_33 rfl (by decide) hL1.1 rfl rfl dX3_measure_19 ?_
    refine lv_icmp_ge (tgt := 70) S.1 S.2.1 dX3_measure_22 (by decide) (fun c1 => ?_) (fun c1 => ?_)
    · rw [if_pos c1] at hm
      refine lv_aload_n S.1 S.2.1 dX3_measure_70 rfl (lv_at hl 0 rfl) ?_
      refine lv_aload_n S.1 S.2.1 dX3_measure_71 rfl (lv_at hl 1 rfl) ?_
      refine lv_ldc2 (v := (4294967296 : Int64)) S.1 S.2.1 S.2.2.2.1 (S.2.2.2.2 _ kcX3_measure_43) dX3_measure_72 ?_
      obtain ⟨r2, hcr2, hm⟩ := bd_ok hm
      refine gC_v C (gRV (k := x0) (ci := 3) (r := (RX3, TX3, 6)) (As := [.ref (ad x1), .long (4294967296 : Int64)]) (rest := []) 2 S C (c_X3_reachStart l D cy ad M x0 hL0 x1 hL1 (4294967296 : Int64) r2 hcr2) gX3_measure_X3_reachStart rfl (by decide +kernel) (by decide) hL0.1 rfl rfl rfl hl.1 rfl (Nat.le_of_ble_eq_true rfl) dX3_measure_75) (fun H locs C => ?_)
      exact gRetv S hr hlk C (Option.some.inj hm) dX3_measure_78
    · rw [if_neg c1] at hm
      refine lv_aload_n S.1 S.2.1 dX3_measure_25 rfl (lv_at hl 0 rfl) ?_
      refine lv_aload_n S.1 S.2.1 dX3_measure_26 rfl (lv_at hl 1 rfl) ?_
      refine lv_aload_n S.1 S.2.1 dX3_measure_27 rfl (lv_at hl 1 rfl) ?_
      refine lv_iload_n S.1 S.2.1 dX3_measure_28 rfl (lv_at hl 2 rfl) ?_
      obtain ⟨r3, hcr3, hm⟩ := bd_ok hm
      refine gC_l C (gRV (k := x1) (ci := 2) (r := (RX2, TX2, 5)) (As := [.int x2]) (rest := [.ref (ad x1), .ref (ad x0)]) 1 S C (c_X2_first l D cy ad M x1 hL1 x2 r3 hcr3) gX3_measure_X2_first rfl (by decide +kernel) (by decide) hL1.1 rfl rfl rfl hl.1 rfl (Nat.le_of_ble_eq_true rfl) dX3_measure_29) (fun H locs C => ?_)
      obtain ⟨r4, hcr4, hm⟩ := bd_ok hm
      refine gC_v C (gRV (k := x0) (ci := 3) (r := (RX3, TX3, 6)) (As := [.ref (ad x1), .long r3]) (rest := []) 2 S C (c_X3_reachStart l D cy ad M x0 hL0 x1 hL1 r3 r4 hcr4) gX3_measure_X3_reachStart rfl (by decide +kernel) (by decide) hL0.1 rfl rfl rfl hl.1 rfl (Nat.le_of_ble_eq_true rfl) dX3_measure_32) (fun H locs C => ?_)
      refine lv_aload_n S.1 S.2.1 dX3_measure_35 rfl (lv_at hl 0 rfl) ?_
      refine g_get (k := x0) (ci := 3) (f := 5) (v := .int (r4.1 x0 5))  S C kiX3_measure_X3 kfX3_measure_30 rfl (by decide) hL0.1 rfl rfl dX3_measure_36 ?_
      refine lv_bipush (v := (33 : Int32)) S.1 S.2.1 dX3_measure_39 (by decide) ?_
      refine lv_icmp_ge (tgt := 64) S.1 S.2.1 dX3_measure_41 (by decide) (fun c5 => ?_) (fun c5 => ?_)
      · rw [if_pos c5] at hm
        obtain ⟨y6, ey6, hm⟩ := nmd_ok hm
        refine lv_iinc (v := y6) (lv' := [(2, .int y6), (0, .ref (ad x0)), (1, .ref (ad x1))]) S.1 S.2.1 dX3_measure_64 hl (k := 2) rfl (by rw [ey6]; rfl) (by decide) rfl (fun ls hl => ?_)
        refine lv_goto (tgt := 17) S.1 S.2.1 dX3_measure_67 (by decide) ?_
        exact ih r4 _ _ C x0 hL0 x1 hL1 y6 ls (lv_sub hl [1, 2, 0] rfl) hm
      · rw [if_neg c5] at hm
        refine lv_aload_n S.1 S.2.1 dX3_measure_44 rfl (lv_at hl 0 rfl) ?_
        refine g_get (k := x0) (ci := 3) (f := 4) (v := .ref (ad (x0 + 3)))  S C kiX3_measure_X3 kfX3_measure_19 rfl (by decide) hL0.1 rfl rfl dX3_measure_45 ?_
        refine lv_aload_n S.1 S.2.1 dX3_measure_48 rfl (lv_at hl 0 rfl) ?_
        refine g_get (k := x0) (ci := 3) (f := 5) (v := .int (r4.1 x0 5))  S C kiX3_measure_X3 kfX3_measure_30 rfl (by decide) hL0.1 rfl rfl dX3_measure_49 ?_
        refine lv_iload_n S.1 S.2.1 dX3_measure_52 rfl (lv_at hl 2 rfl) ?_
        obtain ⟨h7, hm⟩ := ck_ok hm
        obtain ⟨M8, eM8, hm⟩ := nmd_ok hm
        refine g_iast S C (k := (x0 + 3)) (hL0).2.2.2 h7 dX3_measure_53 (fun H locs C => ?_)
        rw [← eM8] at C
        refine lv_aload_n S.1 S.2.1 dX3_measure_54 rfl (lv_at hl 0 rfl) ?_
        refine lv_dup S.1 S.2.1 dX3_measure_55 rfl ?_
        refine g_get (k := x0) (ci := 3) (f := 5) (v := .int (M8.1 x0 5))  S C kiX3_measure_X3 kfX3_measure_30 rfl (by decide) hL0.1 rfl rfl dX3_measure_56 ?_
        refine lv_iconst (v := (1 : Int32)) S.1 S.2.1 dX3_measure_59 (by decide) ?_
        refine lv_iadd S.1 S.2.1 dX3_measure_60 ?_
        obtain ⟨M9, eM9, hm⟩ := nmd_ok hm
        refine g_put (M' := (sI M8 x0 5 ((M8.1 x0 5) + (1 : Int32)))) (k := x0) (ci := 3) (f := 5) (v := .int ((M8.1 x0 5) + (1 : Int32))) (ty := .int) S C kiX3_measure_X3 tyX3 tyX3_ok nmX3 kfX3_measure_30 rfl (by decide) rfl (by decide +kernel) rfl rfl hL0.1 rfl (Nat.le_of_ble_eq_true rfl) (by rw [sI_at]; rfl) sI_off dX3_measure_61 (fun H locs C => ?_)
        rw [← eM9] at C
        obtain ⟨y10, ey10, hm⟩ := nmd_ok hm
        refine lv_iinc (v := y10) (lv' := [(2, .int y10), (0, .ref (ad x0)), (1, .ref (ad x1))]) S.1 S.2.1 dX3_measure_64 hl (k := 2) rfl (by rw [ey10]; rfl) (by decide) rfl (fun ls hl => ?_)
        refine lv_goto (tgt := 17) S.1 S.2.1 dX3_measure_67 (by decide) ?_
        exact ih M9 _ _ C x0 hL0 x1 hL1 y10 ls (lv_sub hl [1, 2, 0] rfl) hm
set_option maxHeartbeats 4000000 in
set_option maxRecDepth 100000 in
theorem c_X3_measure (l : Launch) (D : va_G) (cy : gCy) (ad : Nat → Nat) (M : gMem) (x0 : Nat) (hL0 : isS x0) (x1 : Nat) (hL1 : isL x1) (r0 : gMem) (hm : mX3_measure M x0 x1 = some r0) : Met l yX3_measure wsX3_measure (gR 4 87) (va_Pc [.ref (ad x0), .ref (ad x1)] (gP shC D cy ad M)) (gQv shC D cy ad r0) 0 0 (gA shC ad) := by
  refine gEnter (cc := cX3_measure) (maxL := 3) (ret := none) (by decide) rfl (Nat.le_of_ble_eq_true rfl) ?_
  intro p e s m below meth c ls S hr hlk C hl
  have S : CallFix p m c cX3_measure 3 s _ wsX3_measure RX3 := S
  have hl : lv_has ls 3 [(0, .ref (ad x0)), (1, .ref (ad x1))] := hl
  rw [mX3_measure] at hm
  refine lv_aload_n S.1 S.2.1 dX3_measure_0 rfl (lv_at hl 0 rfl) ?_
  refine lv_iconst (v := (0 : Int32)) S.1 S.2.1 dX3_measure_1 (by decide) ?_
  obtain ⟨M1, eM1, hm⟩ := nmd_ok hm
  refine g_put (M' := (sI M x0 2 (0 : Int32))) (k := x0) (ci := 3) (f := 2) (v := .int (0 : Int32)) (ty := .int) S C kiX3_measure_X3 tyX3 tyX3_ok nmX3 kfX3_measure_22 rfl (by decide) rfl (by decide +kernel) rfl rfl hL0.1 rfl (Nat.le_of_ble_eq_true rfl) (by rw [sI_at]; rfl) sI_off dX3_measure_2 (fun H locs C => ?_)
  rw [← eM1] at C
  refine lv_aload_n S.1 S.2.1 dX3_measure_5 rfl (lv_at hl 0 rfl) ?_
  refine lv_lconst (v := (0 : Int64)) S.1 S.2.1 dX3_measure_6 (by decide) ?_
  obtain ⟨M2, eM2, hm⟩ := nmd_ok hm
  refine g_put (M' := (sJ M1 x0 3 (0 : Int64))) (k := x0) (ci := 3) (f := 3) (v := .long (0 : Int64)) (ty := .long) S C kiX3_measure_X3 tyX3 tyX3_ok nmX3 kfX3_measure_26 rfl (by decide) rfl (by decide +kernel) rfl rfl hL0.1 rfl (Nat.le_of_ble_eq_true rfl) (by rw [sJ_at]; rfl) sJ_off dX3_measure_7 (fun H locs C => ?_)
  rw [← eM2] at C
  refine lv_aload_n S.1 S.2.1 dX3_measure_10 rfl (lv_at hl 0 rfl) ?_
  refine lv_iconst (v := (0 : Int32)) S.1 S.2.1 dX3_measure_11 (by decide) ?_
  obtain ⟨M3, eM3, hm⟩ := nmd_ok hm
  refine g_put (M' := (sI M2 x0 5 (0 : Int32))) (k := x0) (ci := 3) (f := 5) (v := .int (0 : Int32)) (ty := .int) S C kiX3_measure_X3 tyX3 tyX3_ok nmX3 kfX3_measure_30 rfl (by decide) rfl (by decide +kernel) rfl rfl hL0.1 rfl (Nat.le_of_ble_eq_true rfl) (by rw [sI_at]; rfl) sI_off dX3_measure_12 (fun H locs C => ?_)
  rw [← eM3] at C
  refine lv_iconst (v := (0 : Int32)) S.1 S.2.1 dX3_measure_15 (by decide) ?_
  refine lv_istore_n (lv' := [(2, .int (0 : Int32)), (0, .ref (ad x0)), (1, .ref (ad x1))]) S.1 S.2.1 dX3_measure_16 rfl hl (by decide) rfl (fun ls hl => ?_)
  exact wX3_measure_17 S hr hlk FU M3 _ _ C x0 hL0 x1 hL1 (0 : Int32) ls (lv_sub hl [1, 2, 0] rfl) hm
def mX3_tell (M : gMem) (x0 : Nat) (x1 : Int32) (x2 : Int32) : Option Int64 := if x1 < 0 then (some (-1 : Int64)) else (if x1 < (M.1 x0 2) then (if x2 = (0 : Int32) then (ck (inb x1 129) <| some (M.2 (x0 + 1) x1.toNatClampNeg)) else (if x2 = (1 : Int32) then ((mX3_last M x0 x1).bind fun r6 => some r6) else (if x2 = (2 : Int32) then (ck (inb x1 129) <| some ((M.1 (x0 + 2) x1.toNatClampNeg).toInt64)) else (some (-1 : Int64))))) else (some (-1 : Int64)))
set_option maxHeartbeats 4000000 in
set_option maxRecDepth 100000 in
theorem c_X3_tell (l : Launch) (D : va_G) (cy : gCy) (ad : Nat → Nat) (M : gMem) (x0 : Nat) (hL0 : isS x0) (x1 : Int32) (x2 : Int32) (r0 : Int64) (hm : mX3_tell M x0 x1 x2 = some r0) : Met l yX3_tell wsX3_tell (gR 1 21) (va_Pc [.ref (ad x0), .int x1, .int x2] (gP shC D cy ad M)) (gQl shC D cy ad r0 M) 0 0 (gA shC ad) := by
  refine gEnter (cc := cX3_tell) (maxL := 3) (ret := (some .long)) (by decide) rfl (Nat.le_of_ble_eq_true rfl) ?_
  intro p e s m below meth c ls S hr hlk C hl
  have S : CallFix p m c cX3_tell 3 s _ wsX3_tell RX3 := S
  have hl : lv_has ls 3 [(0, .ref (ad x0)), (1, .int x1), (2, .int x2)] := hl
  rw [mX3_tell] at hm
  refine lv_iload_n S.1 S.2.1 dX3_tell_0 rfl (lv_at hl 1 rfl) ?_
  refine lv_if_lt (tgt := 12) S.1 S.2.1 dX3_tell_1 (by decide) (fun c1 => ?_) (fun c1 => ?_)
  · rw [if_pos c1] at hm
    refine lv_ldc2 (v := (-1 : Int64)) S.1 S.2.1 S.2.2.2.1 (S.2.2.2.2 _ kcX3_tell_55) dX3_tell_12 ?_
    exact gRetl S hr hlk C (Option.some.inj hm) rfl dX3_tell_15
  · rw [if_neg c1] at hm
    refine lv_iload_n S.1 S.2.1 dX3_tell_4 rfl (lv_at hl 1 rfl) ?_
    refine lv_aload_n S.1 S.2.1 dX3_tell_5 rfl (lv_at hl 0 rfl) ?_
    refine g_get (k := x0) (ci := 3) (f := 2) (v := .int (M.1 x0 2))  S C kiX3_tell_X3 kfX3_tell_22 rfl (by decide) hL0.1 rfl rfl dX3_tell_6 ?_
    refine lv_icmp_lt (tgt := 16) S.1 S.2.1 dX3_tell_9 (by decide) (fun c2 => ?_) (fun c2 => ?_)
    · rw [if_pos c2] at hm
      refine lv_iload_n S.1 S.2.1 dX3_tell_16 rfl (lv_at hl 2 rfl) ?_
      by_cases c3 : x2 = (0 : Int32)
      · rw [if_pos c3] at hm
        refine lv_tableIn (tgt := 44) S.1 S.2.1 dX3_tell_17 (by rw [c3]; decide) (by rw [c3]; decide) (by rw [c3]; rfl) (by decide) ?_
        refine lv_aload_n S.1 S.2.1 dX3_tell_44 rfl (lv_at hl 0 rfl) ?_
        refine g_get (k := x0) (ci := 3) (f := 0) (v := .ref (ad (x0 + 1)))  S C kiX3_tell_X3 kfX3_tell_11 rfl (by decide) hL0.1 rfl rfl dX3_tell_45 ?_
        refine lv_iload_n S.1 S.2.1 dX3_tell_48 rfl (lv_at hl 1 rfl) ?_
        obtain ⟨h4, hm⟩ := ck_ok hm
        refine g_lald S C (k := (x0 + 1)) (hL0).2.1 h4 dX3_tell_49 ?_
        exact gRetl S hr hlk C (Option.some.inj hm) rfl dX3_tell_50
      · rw [if_neg c3] at hm
        by_cases c5 : x2 = (1 : Int32)
        · rw [if_pos c5] at hm
          refine lv_tableIn (tgt := 51) S.1 S.2.1 dX3_tell_17 (by rw [c5]; decide) (by rw [c5]; decide) (by rw [c5]; rfl) (by decide) ?_
          refine lv_aload_n S.1 S.2.1 dX3_tell_51 rfl (lv_at hl 0 rfl) ?_
          refine lv_iload_n S.1 S.2.1 dX3_tell_52 rfl (lv_at hl 1 rfl) ?_
          obtain ⟨r6, hcr6, hm⟩ := bd_ok hm
          refine gC_l C (gRV (k := x0) (ci := 3) (r := (RX3, TX3, 6)) (As := [.int x1]) (rest := []) 1 S C (c_X3_last l D cy ad M x0 hL0 x1 r6 hcr6) gX3_tell_X3_last rfl (by decide +kernel) (by decide) hL0.1 rfl rfl rfl hl.1 rfl (Nat.le_of_ble_eq_true rfl) dX3_tell_53) (fun H locs C => ?_)
          exact gRetl S hr hlk C (Option.some.inj hm) rfl dX3_tell_56
        · rw [if_neg c5] at hm
          by_cases c7 : x2 = (2 : Int32)
          · rw [if_pos c7] at hm
            refine lv_tableIn (tgt := 57) S.1 S.2.1 dX3_tell_17 (by rw [c7]; decide) (by rw [c7]; decide) (by rw [c7]; rfl) (by decide) ?_
            refine lv_aload_n S.1 S.2.1 dX3_tell_57 rfl (lv_at hl 0 rfl) ?_
            refine g_get (k := x0) (ci := 3) (f := 1) (v := .ref (ad (x0 + 2)))  S C kiX3_tell_X3 kfX3_tell_15 rfl (by decide) hL0.1 rfl rfl dX3_tell_58 ?_
            refine lv_iload_n S.1 S.2.1 dX3_tell_61 rfl (lv_at hl 1 rfl) ?_
            obtain ⟨h8, hm⟩ := ck_ok hm
            refine g_iald S C (k := (x0 + 2)) (hL0).2.2.1 h8 dX3_tell_62 ?_
            refine lv_i2l (v := (M.1 (x0 + 2) x1.toNatClampNeg).toInt64) S.1 S.2.1 dX3_tell_63 rfl ?_
            exact gRetl S hr hlk C (Option.some.inj hm) rfl dX3_tell_64
          · rw [if_neg c7] at hm
            refine lv_tableOut (tgt := 65) S.1 S.2.1 dX3_tell_17 (tb3 c3 c5 c7) (by decide) ?_
            refine lv_ldc2 (v := (-1 : Int64)) S.1 S.2.1 S.2.2.2.1 (S.2.2.2.2 _ kcX3_tell_55) dX3_tell_65 ?_
            exact gRetl S hr hlk C (Option.some.inj hm) rfl dX3_tell_68
    · rw [if_neg c2] at hm
      refine lv_ldc2 (v := (-1 : Int64)) S.1 S.2.1 S.2.2.2.1 (S.2.2.2.2 _ kcX3_tell_55) dX3_tell_12 ?_
      exact gRetl S hr hlk C (Option.some.inj hm) rfl dX3_tell_15
def mX3_addressesTo_5 : Nat → gMem → Nat → Int32 → Int64 → Int32 → Option Int64
  | 0, _, _, _, _, _ => none
  | n + 1, M, x0, x1, x2, x4 => if (M.1 x0 2) ≤ x4 then (some x2) else (ck (inb x4 129) <| if (M.1 (x0 + 2) x4.toNatClampNeg) = x1 then ((mX3_last M x0 x4).bind fun r5 => ck (inb x4 129) <| nmd (x2 + ((r5 - (M.2 (x0 + 1) x4.toNatClampNeg)) + (1 : Int64))) fun y7 => nmd (x4 + (1 : Int32)) fun y8 => mX3_addressesTo_5 n M x0 x1 y7 y8) else (nmd (x4 + (1 : Int32)) fun y4 => mX3_addressesTo_5 n M x0 x1 x2 y4))
def mX3_addressesTo (M : gMem) (x0 : Nat) (x1 : Int32) : Option Int64 := mX3_addressesTo_5 FU M x0 x1 (0 : Int64) (0 : Int32)
set_option maxHeartbeats 4000000 in
set_option maxRecDepth 100000 in
theorem wX3_addressesTo_5 {p : Program} {l : Launch} {e : Env} {s : State} {m : MethodId} {args : Array Value} {below : List Frame} {meth : Method} {c : Code} {D : va_G} {cy : gCy} {ad : Nat → Nat} {M : gMem} {r0 : Int64} (S : CallFix p m c cX3_addressesTo 5 s args wsX3_addressesTo RX3) (hr : meth.sig.returnType = (some .long)) (hlk : meth.locks = false) : ∀ (n : Nat), ∀ (H : Heap) (locs : List Loc), gW shC D cy ad s s.heap M H locs → ∀ (x0 : Nat) (hL0 : isS x0) (x1 : Int32) (x2 : Int64) (x4 : Int32), ∀ (ls : Array Slot), lv_has ls 5 [(0, .ref (ad x0)), (1, .int x1), (2, .long x2), (4, .int x4)] → mX3_addressesTo_5 n M x0 x1 x2 x4 = some r0 → W p l e (gR 1 21) s m args below meth c H locs 0 0 (MQ below (gQl shC D cy ad r0 M) args s 0 0 (gA shC ad)) (F0 m 5 ls []) := by
  intro n
  induction n with
  | zero => intro H locs C x0 hL0 x1 x2 x4 ls hl hm; exact absurd hm (by simp [mX3_addressesTo_5])
  | succ n ih =>
    intro H locs C x0 hL0 x1 x2 x4 ls hl hm
    rw [mX3_addressesTo_5] at hm
    refine lv_iload S.1 S.2.1 dX3_addressesTo_5 (lv_at hl 3 rfl) ?_
    refine lv_aload_n S.1 S.2.1 dX3_addressesTo_7 rfl (lv_at hl 0 rfl) ?_
    refine g_get (k := x0) (ci := 3) (f := 2) (v := .int (M.1 x0 2))  S C kiX3_addressesTo_X3 kfX3_addressesTo_22 rfl (by decide) hL0.1 rfl rfl dX3_addressesTo_8 ?_
    refine lv_icmp_ge (tgt := 50) S.1 S.2.1 dX3_addressesTo_11 (by decide) (fun c1 => ?_) (fun c1 => ?_)
    · rw [if_pos c1] at hm
      refine lv_lload_n S.1 S.2.1 dX3_addressesTo_50 rfl (lv_at hl 2 rfl) ?_
      exact gRetl S hr hlk C (Option.some.inj hm) rfl dX3_addressesTo_51
    · rw [if_neg c1] at hm
      refine lv_aload_n S.1 S.2.1 dX3_addressesTo_14 rfl (lv_at hl 0 rfl) ?_
      refine g_get (k := x0) (ci := 3) (f := 1) (v := .ref (ad (x0 + 2)))  S C kiX3_addressesTo_X3 kfX3_addressesTo_15 rfl (by decide) hL0.1 rfl rfl dX3_addressesTo_15 ?_
      refine lv_iload S.1 S.2.1 dX3_addressesTo_18 (lv_at hl 3 rfl) ?_
      obtain ⟨h2, hm⟩ := ck_ok hm
      refine g_iald S C (k := (x0 + 2)) (hL0).2.2.1 h2 dX3_addressesTo_20 ?_
      refine lv_iload_n S.1 S.2.1 dX3_addressesTo_21 rfl (lv_at hl 1 rfl) ?_
      refine lv_icmp_ne (tgt := 44) S.1 S.2.1 dX3_addressesTo_22 (by decide) (fun c3 => ?_) (fun c3 => ?_)
      · rw [if_neg c3] at hm
        obtain ⟨y4, ey4, hm⟩ := nmd_ok hm
        refine lv_iinc (v := y4) (lv' := [(4, .int y4), (0, .ref (ad x0)), (1, .int x1), (2, .long x2)]) S.1 S.2.1 dX3_addressesTo_44 hl (k := 3) rfl (by rw [ey4]; rfl) (by decide) rfl (fun ls hl => ?_)
        refine lv_goto (tgt := 5) S.1 S.2.1 dX3_addressesTo_47 (by decide) ?_
        exact ih _ _ C x0 hL0 x1 x2 y4 ls (lv_sub hl [1, 2, 3, 0] rfl) hm
      · rw [if_pos c3] at hm
        refine lv_lload_n S.1 S.2.1 dX3_addressesTo_25 rfl (lv_at hl 2 rfl) ?_
        refine lv_aload_n S.1 S.2.1 dX3_addressesTo_26 rfl (lv_at hl 0 rfl) ?_
        refine lv_iload S.1 S.2.1 dX3_addressesTo_27 (lv_at hl 3 rfl) ?_
        obtain ⟨r5, hcr5, hm⟩ := bd_ok hm
        refine gC_l C (gRV (k := x0) (ci := 3) (r := (RX3, TX3, 6)) (As := [.int x4]) (rest := [.long x2]) 1 S C (c_X3_last l D cy ad M x0 hL0 x4 r5 hcr5) gX3_addressesTo_X3_last rfl (by decide +kernel) (by decide) hL0.1 rfl rfl rfl hl.1 rfl (Nat.le_of_ble_eq_true rfl) dX3_addressesTo_29) (fun H locs C => ?_)
        refine lv_aload_n S.1 S.2.1 dX3_addressesTo_32 rfl (lv_at hl 0 rfl) ?_
        refine g_get (k := x0) (ci := 3) (f := 0) (v := .ref (ad (x0 + 1)))  S C kiX3_addressesTo_X3 kfX3_addressesTo_11 rfl (by decide) hL0.1 rfl rfl dX3_addressesTo_33 ?_
        refine lv_iload S.1 S.2.1 dX3_addressesTo_36 (lv_at hl 3 rfl) ?_
        obtain ⟨h6, hm⟩ := ck_ok hm
        refine g_lald S C (k := (x0 + 1)) (hL0).2.1 h6 dX3_addressesTo_38 ?_
        refine lv_lsub S.1 S.2.1 dX3_addressesTo_39 ?_
        refine lv_lconst (v := (1 : Int64)) S.1 S.2.1 dX3_addressesTo_40 (by decide) ?_
        refine lv_ladd S.1 S.2.1 dX3_addressesTo_41 ?_
        refine lv_ladd S.1 S.2.1 dX3_addressesTo_42 ?_
        obtain ⟨y7, ey7, hm⟩ := nmd_ok hm
        refine gNmJ ey7 ?_
        refine lv_lstore_n (lv' := [(2, .long y7), (0, .ref (ad x0)), (1, .int x1), (4, .int x4)]) S.1 S.2.1 dX3_addressesTo_43 rfl hl (by decide) rfl (fun ls hl => ?_)
        obtain ⟨y8, ey8, hm⟩ := nmd_ok hm
        refine lv_iinc (v := y8) (lv' := [(4, .int y8), (2, .long y7), (0, .ref (ad x0)), (1, .int x1)]) S.1 S.2.1 dX3_addressesTo_44 hl (k := 3) rfl (by rw [ey8]; rfl) (by decide) rfl (fun ls hl => ?_)
        refine lv_goto (tgt := 5) S.1 S.2.1 dX3_addressesTo_47 (by decide) ?_
        exact ih _ _ C x0 hL0 x1 y7 y8 ls (lv_sub hl [2, 3, 1, 0] rfl) hm
set_option maxHeartbeats 4000000 in
set_option maxRecDepth 100000 in
theorem c_X3_addressesTo (l : Launch) (D : va_G) (cy : gCy) (ad : Nat → Nat) (M : gMem) (x0 : Nat) (hL0 : isS x0) (x1 : Int32) (r0 : Int64) (hm : mX3_addressesTo M x0 x1 = some r0) : Met l yX3_addressesTo wsX3_addressesTo (gR 1 21) (va_Pc [.ref (ad x0), .int x1] (gP shC D cy ad M)) (gQl shC D cy ad r0 M) 0 0 (gA shC ad) := by
  refine gEnter (cc := cX3_addressesTo) (maxL := 5) (ret := (some .long)) (by decide) rfl (Nat.le_of_ble_eq_true rfl) ?_
  intro p e s m below meth c ls S hr hlk C hl
  have S : CallFix p m c cX3_addressesTo 5 s _ wsX3_addressesTo RX3 := S
  have hl : lv_has ls 5 [(0, .ref (ad x0)), (1, .int x1)] := hl
  rw [mX3_addressesTo] at hm
  refine lv_lconst (v := (0 : Int64)) S.1 S.2.1 dX3_addressesTo_0 (by decide) ?_
  refine lv_lstore_n (lv' := [(2, .long (0 : Int64)), (0, .ref (ad x0)), (1, .int x1)]) S.1 S.2.1 dX3_addressesTo_1 rfl hl (by decide) rfl (fun ls hl => ?_)
  refine lv_iconst (v := (0 : Int32)) S.1 S.2.1 dX3_addressesTo_2 (by decide) ?_
  refine lv_istore (lv' := [(4, .int (0 : Int32)), (2, .long (0 : Int64)), (0, .ref (ad x0)), (1, .int x1)]) S.1 S.2.1 dX3_addressesTo_3 hl (by decide) rfl (fun ls hl => ?_)
  exact wX3_addressesTo_5 S hr hlk FU _ _ C x0 hL0 x1 (0 : Int64) (0 : Int32) ls (lv_sub hl [2, 3, 1, 0] rfl) hm
