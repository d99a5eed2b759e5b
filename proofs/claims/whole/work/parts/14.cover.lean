theorem kcX0_addressesOf_31 : Cond.constantLong RX0 31 (4294967296 : Int64) ∈ wsX0_addressesOf := by decide +kernel
theorem kiX0_make_X0 : ∀ w ∈ wsX00, w ∈ wsX0_make := by decide +kernel
theorem kfX0_make_19 : Cond.fieldLink RX0 19 "PrefixLeader$Cover" "size" "I" ∈ wsX0_make := by decide +kernel
theorem kfX0_make_11 : Cond.fieldLink RX0 11 "PrefixLeader$Cover" "address" "[J" ∈ wsX0_make := by decide +kernel
theorem kfX0_make_15 : Cond.fieldLink RX0 15 "PrefixLeader$Cover" "bits" "[I" ∈ wsX0_make := by decide +kernel
theorem kcX0_tell_33 : Cond.constantLong RX0 33 (-1 : Int64) ∈ wsX0_tell := by decide +kernel
theorem kiX0_tell_X0 : ∀ w ∈ wsX00, w ∈ wsX0_tell := by decide +kernel
theorem kfX0_tell_19 : Cond.fieldLink RX0 19 "PrefixLeader$Cover" "size" "I" ∈ wsX0_tell := by decide +kernel
theorem kfX0_tell_11 : Cond.fieldLink RX0 11 "PrefixLeader$Cover" "address" "[J" ∈ wsX0_tell := by decide +kernel
theorem kfX0_tell_15 : Cond.fieldLink RX0 15 "PrefixLeader$Cover" "bits" "[I" ∈ wsX0_tell := by decide +kernel
theorem lkX0_tell_17 {x : Int32} (h0 : ¬ x = (0 : Int32)) (h1 : ¬ x = (1 : Int32)) : Op.lookupswitch.offset [(0, 27), (1, 34)] 42 x.toInt = 42 := by
  have a0 := tb_ne h0
  have e0 : (0 : Int32).toInt = 0 := rfl
  have a1 := tb_ne h1
  have e1 : (1 : Int32).toInt = 1 := rfl
  unfold Op.lookupswitch.offset
  rw [if_neg (by omega)]
  unfold Op.lookupswitch.offset
  rw [if_neg (by omega)]
  rfl
def mX0_addressesOf (x0 : Int32) : Option Int64 := some ((4294967296 : Int64) >>> (x0.toInt64 &&& 63))
set_option maxHeartbeats 4000000 in
set_option maxRecDepth 100000 in
theorem c_X0_addressesOf (l : Launch) (D : va_G) (cy : gCy) (ad : Nat → Nat) (M : gMem) (x0 : Int32) (r0 : Int64) (hm : mX0_addressesOf x0 = some r0) : Met l yX0_addressesOf wsX0_addressesOf (gR 0 0) (va_Pc [.int x0] (gP shC D cy ad M)) (gQl shC D cy ad r0 M) 0 0 (gA shC ad) := by
  refine gEnter (cc := cX0_addressesOf) (maxL := 1) (ret := (some .long)) (by decide) rfl (Nat.le_of_ble_eq_true rfl) ?_
  intro p e s m below meth c ls S hr hlk C hl
  have S : CallFix p m c cX0_addressesOf 1 s _ wsX0_addressesOf RX0 := S
  have hl : lv_has ls 1 [(0, .int x0)] := hl
  rw [mX0_addressesOf] at hm
  refine lv_ldc2 (v := (4294967296 : Int64)) S.1 S.2.1 S.2.2.2.1 (S.2.2.2.2 _ kcX0_addressesOf_31) dX0_addressesOf_0 ?_
  refine lv_iload_n S.1 S.2.1 dX0_addressesOf_3 rfl (lv_at hl 0 rfl) ?_
  refine lv_lshr (v := ((4294967296 : Int64) >>> (x0.toInt64 &&& 63))) S.1 S.2.1 dX0_addressesOf_4 rfl ?_
  exact gRetl S hr hlk C (Option.some.inj hm) rfl dX0_addressesOf_5
def mX0_fewestBits_3 : Nat → Int64 → Int64 → Int32 → Option Int32
  | 0, _, _, _ => none
  | n + 1, x0, x2, x4 => if (32 : Int32) ≤ x4 then (some (32 : Int32)) else ((mX0_addressesOf x4).bind fun r2 => if (x0 &&& (r2 - (1 : Int64))) = (0 : Int64) then (if x2 < ((x0 + r2) - (1 : Int64)) then (nmd (x4 + (1 : Int32)) fun y6 => mX0_fewestBits_3 n x0 x2 y6) else (some x4)) else (nmd (x4 + (1 : Int32)) fun y4 => mX0_fewestBits_3 n x0 x2 y4))
def mX0_fewestBits (x0 : Int64) (x2 : Int64) : Option Int32 := mX0_fewestBits_3 FU x0 x2 (0 : Int32)
set_option maxHeartbeats 4000000 in
set_option maxRecDepth 100000 in
theorem wX0_fewestBits_3 {p : Program} {l : Launch} {e : Env} {s : State} {m : MethodId} {args : Array Value} {below : List Frame} {meth : Method} {c : Code} {D : va_G} {cy : gCy} {ad : Nat → Nat} {M : gMem} {r0 : Int32} (S : CallFix p m c cX0_fewestBits 7 s args wsX0_fewestBits RX0) (hr : meth.sig.returnType = (some .int)) (hlk : meth.locks = false) : ∀ (n : Nat), ∀ (H : Heap) (locs : List Loc), gW shC D cy ad s s.heap M H locs → ∀ (x0 : Int64) (x2 : Int64) (x4 : Int32), ∀ (ls : Array Slot), lv_has ls 7 [(0, .long x0), (2, .long x2), (4, .int x4)] → mX0_fewestBits_3 n x0 x2 x4 = some r0 → W p l e (gR 1 20) s m args below meth c H locs 0 0 (MQ below (gQi shC D cy ad r0 M) args s 0 0 (gA shC ad)) (F0 m 3 ls []) := by
  intro n
  induction n with
  | zero => intro H locs C x0 x2 x4 ls hl hm; exact absurd hm (by simp [mX0_fewestBits_3])
  | succ n ih =>
    intro H locs C x0 x2 x4 ls hl hm
    rw [mX0_fewestBits_3] at hm
    refine lv_iload S.1 S.2.1 dX0_fewestBits_3 (lv_at hl 2 rfl) ?_
    refine lv_bipush (v := (32 : Int32)) S.1 S.2.1 dX0_fewestBits_5 (by decide) ?_
    refine lv_icmp_ge (tgt := 48) S.1 S.2.1 dX0_fewestBits_7 (by decide) (fun c1 => ?_) (fun c1 => ?_)
    · rw [if_pos c1] at hm
      refine lv_bipush (v := (32 : Int32)) S.1 S.2.1 dX0_fewestBits_48 (by decide) ?_
      exact gReti S hr hlk C (Option.some.inj hm) rfl dX0_fewestBits_50
    · rw [if_neg c1] at hm
      refine lv_iload S.1 S.2.1 dX0_fewestBits_10 (lv_at hl 2 rfl) ?_
      obtain ⟨r2, hcr2, hm⟩ := bd_ok hm
      refine gC_l C (gRS (As := [.int x4]) (rest := []) 1 S C (c_X0_addressesOf l D cy ad M x4 r2 hcr2) gX0_fewestBits_X0_addressesOf rfl (by decide +kernel) (by decide) rfl hl.1 rfl (Nat.le_of_ble_eq_true rfl) dX0_fewestBits_12) (fun H locs C => ?_)
      refine lv_lstore (lv' := [(5, .long r2), (0, .long x0), (2, .long x2), (4, .int x4)]) S.1 S.2.1 dX0_fewestBits_15 hl (by decide) rfl (fun ls hl => ?_)
      refine lv_lload_n S.1 S.2.1 dX0_fewestBits_17 rfl (lv_at hl 1 rfl) ?_
      refine lv_lload S.1 S.2.1 dX0_fewestBits_18 (lv_at hl 0 rfl) ?_
      refine lv_lconst (v := (1 : Int64)) S.1 S.2.1 dX0_fewestBits_20 (by decide) ?_
      refine lv_lsub S.1 S.2.1 dX0_fewestBits_21 ?_
      refine lv_land S.1 S.2.1 dX0_fewestBits_22 ?_
      refine lv_lconst (v := (0 : Int64)) S.1 S.2.1 dX0_fewestBits_23 (by decide) ?_
      refine W.lcmp S.1 S.2.1 dX0_fewestBits_24 ?_
      refine lv_if_ne (tgt := 42) S.1 S.2.1 dX0_fewestBits_25 (by decide) (fun c3 => ?_) (fun c3 => ?_)
      · rw [if_neg (fun q => c3 (cmp_eq.mpr q))] at hm
        obtain ⟨y4, ey4, hm⟩ := nmd_ok hm
        refine lv_iinc (v := y4) (lv' := [(4, .int y4), (5, .long r2), (0, .long x0), (2, .long x2)]) S.1 S.2.1 dX0_fewestBits_42 hl (k := 3) rfl (by rw [ey4]; rfl) (by decide) rfl (fun ls hl => ?_)
        refine lv_goto (tgt := 3) S.1 S.2.1 dX0_fewestBits_45 (by decide) ?_
        exact ih _ _ C x0 x2 y4 ls (lv_sub hl [2, 3, 0] rfl) hm
      · rw [if_pos (cmp_eq.mp c3)] at hm
        refine lv_lload_n S.1 S.2.1 dX0_fewestBits_28 rfl (lv_at hl 1 rfl) ?_
        refine lv_lload S.1 S.2.1 dX0_fewestBits_29 (lv_at hl 0 rfl) ?_
        refine lv_ladd S.1 S.2.1 dX0_fewestBits_31 ?_
        refine lv_lconst (v := (1 : Int64)) S.1 S.2.1 dX0_fewestBits_32 (by decide) ?_
        refine lv_lsub S.1 S.2.1 dX0_fewestBits_33 ?_
        refine lv_lload_n S.1 S.2.1 dX0_fewestBits_34 rfl (lv_at hl 2 rfl) ?_
        refine W.lcmp S.1 S.2.1 dX0_fewestBits_35 ?_
        refine lv_if_gt (tgt := 42) S.1 S.2.1 dX0_fewestBits_36 (by decide) (fun c5 => ?_) (fun c5 => ?_)
        · rw [if_pos (cmp_gt.mp c5)] at hm
          obtain ⟨y6, ey6, hm⟩ := nmd_ok hm
          refine lv_iinc (v := y6) (lv' := [(4, .int y6), (5, .long r2), (0, .long x0), (2, .long x2)]) S.1 S.2.1 dX0_fewestBits_42 hl (k := 3) rfl (by rw [ey6]; rfl) (by decide) rfl (fun ls hl => ?_)
          refine lv_goto (tgt := 3) S.1 S.2.1 dX0_fewestBits_45 (by decide) ?_
          exact ih _ _ C x0 x2 y6 ls (lv_sub hl [2, 3, 0] rfl) hm
        · rw [if_neg (fun q => c5 (cmp_gt.mpr q))] at hm
          refine lv_iload S.1 S.2.1 dX0_fewestBits_39 (lv_at hl 3 rfl) ?_
          exact gReti S hr hlk C (Option.some.inj hm) rfl dX0_fewestBits_41
set_option maxHeartbeats 4000000 in
set_option maxRecDepth 100000 in
theorem c_X0_fewestBits (l : Launch) (D : va_G) (cy : gCy) (ad : Nat → Nat) (M : gMem) (x0 : Int64) (x2 : Int64) (r0 : Int32) (hm : mX0_fewestBits x0 x2 = some r0) : Met l yX0_fewestBits wsX0_fewestBits (gR 1 20) (va_Pc [.long x0, .long x2] (gP shC D cy ad M)) (gQi shC D cy ad r0 M) 0 0 (gA shC ad) := by
  refine gEnter (cc := cX0_fewestBits) (maxL := 7) (ret := (some .int)) (by decide) rfl (Nat.le_of_ble_eq_true rfl) ?_
  intro p e s m below meth c ls S hr hlk C hl
  have S : CallFix p m c cX0_fewestBits 7 s _ wsX0_fewestBits RX0 := S
  have hl : lv_has ls 7 [(0, .long x0), (2, .long x2)] := hl
  rw [mX0_fewestBits] at hm
  refine lv_iconst (v := (0 : Int32)) S.1 S.2.1 dX0_fewestBits_0 (by decide) ?_
  refine lv_istore (lv' := [(4, .int (0 : Int32)), (0, .long x0), (2, .long x2)]) S.1 S.2.1 dX0_fewestBits_1 hl (by decide) rfl (fun ls hl => ?_)
  exact wX0_fewestBits_3 S hr hlk FU _ _ C x0 x2 (0 : Int32) ls (lv_sub hl [1, 2, 0] rfl) hm
def mX0_make_8 : Nat → gMem → Int64 → Int64 → Option gMem
  | 0, _, _, _ => none
  | n + 1, M, x3, x5 => if x3 < x5 then (some M) else (if (62 : Int32) ≤ (M.1 50 2) then (some M) else ((mX0_fewestBits x5 x3).bind fun r3 => ck (inb (M.1 50 2) 62) <| nmd (sJ M 51 (M.1 50 2).toNatClampNeg x5) fun M5 => ck (inb (M5.1 50 2) 62) <| nmd (sI M5 52 (M5.1 50 2).toNatClampNeg r3) fun M7 => nmd (sI M7 50 2 ((M7.1 50 2) + (1 : Int32))) fun M8 => (mX0_addressesOf r3).bind fun r9 => nmd (x5 + r9) fun y10 => mX0_make_8 n M8 x3 y10))
def mX0_make (M : gMem) (x1 : Int64) (x3 : Int64) : Option gMem := nmd (sI M 50 2 (0 : Int32)) fun M1 => mX0_make_8 FU M1 x3 x1
set_option maxHeartbeats 4000000 in
set_option maxRecDepth 100000 in
theorem wX0_make_8 {p : Program} {l : Launch} {e : Env} {s : State} {m : MethodId} {args : Array Value} {below : List Frame} {meth : Method} {c : Code} {D : va_G} {cy : gCy} {ad : Nat → Nat} {r0 : gMem} (S : CallFix p m c cX0_make 8 s args wsX0_make RX0) (hr : meth.sig.returnType = none) (hlk : meth.locks = false) : ∀ (n : Nat), ∀ (M : gMem) (H : Heap) (locs : List Loc), gW shC D cy ad s s.heap M H locs → ∀ (x3 : Int64) (x5 : Int64), ∀ (ls : Array Slot), lv_has ls 8 [(0, .ref (ad 50)), (3, .long x3), (5, .long x5)] → mX0_make_8 n M x3 x5 = some r0 → W p l e (gR 2 46) s m args below meth c H locs 0 0 (MQ below (gQv shC D cy ad r0) args s 0 0 (gA shC ad)) (F0 m 8 ls []) := by
  intro n
  induction n with
  | zero => intro M H locs C x3 x5 ls hl hm; exact absurd hm (by simp [mX0_make_8])
  | succ n ih =>
    intro M H locs C x3 x5 ls hl hm
    rw [mX0_make_8] at hm
    refine lv_lload S.1 S.2.1 dX0_make_8 (lv_at hl 2 rfl) ?_
    refine lv_lload_n S.1 S.2.1 dX0_make_10 rfl (lv_at hl 1 rfl) ?_
    refine W.lcmp S.1 S.2.1 dX0_make_11 ?_
    refine lv_if_gt (tgt := 77) S.1 S.2.1 dX0_make_12 (by decide) (fun c1 => ?_) (fun c1 => ?_)
    · rw [if_pos (cmp_gt.mp c1)] at hm
      exact gRetv S hr hlk C (Option.some.inj hm) dX0_make_77
    · rw [if_neg (fun q => c1 (cmp_gt.mpr q))] at hm
      refine lv_aload_n S.1 S.2.1 dX0_make_15 rfl (lv_at hl 0 rfl) ?_
      refine g_get (k := 50) (ci := 0) (f := 2) (v := .int (M.1 50 2))  S C kiX0_make_X0 kfX0_make_19 rfl (by decide) shC_50 rfl rfl dX0_make_16 ?_
      refine lv_bipush (v := (62 : Int32)) S.1 S.2.1 dX0_make_19 (by decide) ?_
      refine lv_icmp_ge (tgt := 77) S.1 S.2.1 dX0_make_21 (by decide) (fun c2 => ?_) (fun c2 => ?_)
      · rw [if_pos c2] at hm
        exact gRetv S hr hlk C (Option.some.inj hm) dX0_make_77
      · rw [if_neg c2] at hm
        refine lv_lload S.1 S.2.1 dX0_make_24 (lv_at hl 2 rfl) ?_
        refine lv_lload_n S.1 S.2.1 dX0_make_26 rfl (lv_at hl 1 rfl) ?_
        obtain ⟨r3, hcr3, hm⟩ := bd_ok hm
        refine gC_i C (gRS (As := [.long x5, .long x3]) (rest := []) 2 S C (c_X0_fewestBits l D cy ad M x5 x3 r3 hcr3) gX0_make_X0_fewestBits rfl (by decide +kernel) (by decide) rfl hl.1 rfl (Nat.le_of_ble_eq_true rfl) dX0_make_27) (fun H locs C => ?_)
        refine lv_istore (lv' := [(7, .int r3), (0, .ref (ad 50)), (3, .long x3), (5, .long x5)]) S.1 S.2.1 dX0_make_30 hl (by decide) rfl (fun ls hl => ?_)
        refine lv_aload_n S.1 S.2.1 dX0_make_32 rfl (lv_at hl 1 rfl) ?_
        refine g_get (k := 50) (ci := 0) (f := 0) (v := .ref (ad 51))  S C kiX0_make_X0 kfX0_make_11 rfl (by decide) shC_50 rfl rfl dX0_make_33 ?_
        refine lv_aload_n S.1 S.2.1 dX0_make_36 rfl (lv_at hl 1 rfl) ?_
        refine g_get (k := 50) (ci := 0) (f := 2) (v := .int (M.1 50 2))  S C kiX0_make_X0 kfX0_make_19 rfl (by decide) shC_50 rfl rfl dX0_make_37 ?_
        refine lv_lload S.1 S.2.1 dX0_make_40 (lv_at hl 3 rfl) ?_
        obtain ⟨h4, hm⟩ := ck_ok hm
        obtain ⟨M5, eM5, hm⟩ := nmd_ok hm
        refine g_last S C (k := 51) shC_51 h4 dX0_make_42 (fun H locs C => ?_)
        rw [← eM5] at C
        refine lv_aload_n S.1 S.2.1 dX0_make_43 rfl (lv_at hl 1 rfl) ?_
        refine g_get (k := 50) (ci := 0) (f := 1) (v := .ref (ad 52))  S C kiX0_make_X0 kfX0_make_15 rfl (by decide) shC_50 rfl rfl dX0_make_44 ?_
        refine lv_aload_n S.1 S.2.1 dX0_make_47 rfl (lv_at hl 1 rfl) ?_
        refine g_get (k := 50) (ci := 0) (f := 2) (v := .int (M5.1 50 2))  S C kiX0_make_X0 kfX0_make_19 rfl (by decide) shC_50 rfl rfl dX0_make_48 ?_
        refine lv_iload S.1 S.2.1 dX0_make_51 (lv_at hl 0 rfl) ?_
        obtain ⟨h6, hm⟩ := ck_ok hm
        obtain ⟨M7, eM7, hm⟩ := nmd_ok hm
        refine g_iast S C (k := 52) shC_52 h6 dX0_make_53 (fun H locs C => ?_)
        rw [← eM7] at C
        refine lv_aload_n S.1 S.2.1 dX0_make_54 rfl (lv_at hl 1 rfl) ?_
        refine lv_dup S.1 S.2.1 dX0_make_55 rfl ?_
        refine g_get (k := 50) (ci := 0) (f := 2) (v := .int (M7.1 50 2))  S C kiX0_make_X0 kfX0_make_19 rfl (by decide) shC_50 rfl rfl dX0_make_56 ?_
        refine lv_iconst (v := (1 : Int32)) S.1 S.2.1 dX0_make_59 (by decide) ?_
        refine lv_iadd S.1 S.2.1 dX0_make_60 ?_
        obtain ⟨M8, eM8, hm⟩ := nmd_ok hm
        refine g_put (M' := (sI M7 50 2 ((M7.1 50 2) + (1 : Int32)))) (k := 50) (ci := 0) (f := 2) (v := .int ((M7.1 50 2) + (1 : Int32))) (ty := .int) S C kiX0_make_X0 tyX0 tyX0_ok nmX0 kfX0_make_19 rfl (by decide) rfl (by decide +kernel) rfl rfl shC_50 rfl (Nat.le_of_ble_eq_true rfl) (by rw [sI_at]; rfl) sI_off dX0_make_61 (fun H locs C => ?_)
        rw [← eM8] at C
        refine lv_lload S.1 S.2.1 dX0_make_64 (lv_at hl 3 rfl) ?_
        refine lv_iload S.1 S.2.1 dX0_make_66 (lv_at hl 0 rfl) ?_
        obtain ⟨r9, hcr9, hm⟩ := bd_ok hm
        refine gC_l C (gRS (As := [.int r3]) (rest := [.long x5]) 1 S C (c_X0_addressesOf l D cy ad M8 r3 r9 hcr9) gX0_make_X0_addressesOf rfl (by decide +kernel) (by decide) rfl hl.1 rfl (Nat.le_of_ble_eq_true rfl) dX0_make_68) (fun H locs C => ?_)
        refine lv_ladd S.1 S.2.1 dX0_make_71 ?_
        obtain ⟨y10, ey10, hm⟩ := nmd_ok hm
        refine gNmJ ey10 ?_
        refine lv_lstore (lv' := [(5, .long y10), (7, .int r3), (0, .ref (ad 50)), (3, .long x3)]) S.1 S.2.1 dX0_make_72 hl (by decide) rfl (fun ls hl => ?_)
        refine lv_goto (tgt := 8) S.1 S.2.1 dX0_make_74 (by decide) ?_
        exact ih M8 _ _ C x3 y10 ls (lv_sub hl [2, 3, 0] rfl) hm
set_option maxHeartbeats 4000000 in
set_option maxRecDepth 100000 in
theorem c_X0_make (l : Launch) (D : va_G) (cy : gCy) (ad : Nat → Nat) (M : gMem) (x1 : Int64) (x3 : Int64) (r0 : gMem) (hm : mX0_make M x1 x3 = some r0) : Met l yX0_make wsX0_make (gR 2 46) (va_Pc [.ref (ad 50), .long x1, .long x3] (gP shC D cy ad M)) (gQv shC D cy ad r0) 0 0 (gA shC ad) := by
  refine gEnter (cc := cX0_make) (maxL := 8) (ret := none) (by decide) rfl (Nat.le_of_ble_eq_true rfl) ?_
  intro p e s m below meth c ls S hr hlk C hl
  have S : CallFix p m c cX0_make 8 s _ wsX0_make RX0 := S
  have hl : lv_has ls 8 [(0, .ref (ad 50)), (1, .long x1), (3, .long x3)] := hl
  rw [mX0_make] at hm
  refine lv_aload_n S.1 S.2.1 dX0_make_0 rfl (lv_at hl 0 rfl) ?_
  refine lv_iconst (v := (0 : Int32)) S.1 S.2.1 dX0_make_1 (by decide) ?_
  obtain ⟨M1, eM1, hm⟩ := nmd_ok hm
  refine g_put (M' := (sI M 50 2 (0 : Int32))) (k := 50) (ci := 0) (f := 2) (v := .int (0 : Int32)) (ty := .int) S C kiX0_make_X0 tyX0 tyX0_ok nmX0 kfX0_make_19 rfl (by decide) rfl (by decide +kernel) rfl rfl shC_50 rfl (Nat.le_of_ble_eq_true rfl) (by rw [sI_at]; rfl) sI_off dX0_make_2 (fun H locs C => ?_)
  rw [← eM1] at C
  refine lv_lload_n S.1 S.2.1 dX0_make_5 rfl (lv_at hl 1 rfl) ?_
  refine lv_lstore (lv' := [(5, .long x1), (0, .ref (ad 50)), (1, .long x1), (3, .long x3)]) S.1 S.2.1 dX0_make_6 hl (by decide) rfl (fun ls hl => ?_)
  exact wX0_make_8 S hr hlk FU M1 _ _ C x3 x1 ls (lv_sub hl [1, 3, 0] rfl) hm
def mX0_tell (M : gMem) (x1 : Int32) (x2 : Int32) : Option Int64 := if x1 < 0 then (some (-1 : Int64)) else (if x1 < (M.1 50 2) then (if x2 = (0 : Int32) then (ck (inb x1 62) <| some (M.2 51 x1.toNatClampNeg)) else (if x2 = (1 : Int32) then (ck (inb x1 62) <| some ((M.1 52 x1.toNatClampNeg).toInt64)) else (some (-1 : Int64)))) else (some (-1 : Int64)))
set_option maxHeartbeats 4000000 in
set_option maxRecDepth 100000 in
theorem c_X0_tell (l : Launch) (D : va_G) (cy : gCy) (ad : Nat → Nat) (M : gMem) (x1 : Int32) (x2 : Int32) (r0 : Int64) (hm : mX0_tell M x1 x2 = some r0) : Met l yX0_tell wsX0_tell (gR 0 0) (va_Pc [.ref (ad 50), .int x1, .int x2] (gP shC D cy ad M)) (gQl shC D cy ad r0 M) 0 0 (gA shC ad) := by
  refine gEnter (cc := cX0_tell) (maxL := 3) (ret := (some .long)) (by decide) rfl (Nat.le_of_ble_eq_true rfl) ?_
  intro p e s m below meth c ls S hr hlk C hl
  have S : CallFix p m c cX0_tell 3 s _ wsX0_tell RX0 := S
  have hl : lv_has ls 3 [(0, .ref (ad 50)), (1, .int x1), (2, .int x2)] := hl
  rw [mX0_tell] at hm
  refine lv_iload_n S.1 S.2.1 dX0_tell_0 rfl (lv_at hl 1 rfl) ?_
  refine lv_if_lt (tgt := 12) S.1 S.2.1 dX0_tell_1 (by decide) (fun c1 => ?_) (fun c1 => ?_)
  · rw [if_pos c1] at hm
    refine lv_ldc2 (v := (-1 : Int64)) S.1 S.2.1 S.2.2.2.1 (S.2.2.2.2 _ kcX0_tell_33) dX0_tell_12 ?_
    exact gRetl S hr hlk C (Option.some.inj hm) rfl dX0_tell_15
  · rw [if_neg c1] at hm
    refine lv_iload_n S.1 S.2.1 dX0_tell_4 rfl (lv_at hl 1 rfl) ?_
    refine lv_aload_n S.1 S.2.1 dX0_tell_5 rfl (lv_at hl 0 rfl) ?_
    refine g_get (k := 50) (ci := 0) (f := 2) (v := .int (M.1 50 2))  S C kiX0_tell_X0 kfX0_tell_19 rfl (by decide) shC_50 rfl rfl dX0_tell_6 ?_
    refine lv_icmp_lt (tgt := 16) S.1 S.2.1 dX0_tell_9 (by decide) (fun c2 => ?_) (fun c2 => ?_)
    · rw [if_pos c2] at hm
      refine lv_iload_n S.1 S.2.1 dX0_tell_16 rfl (lv_at hl 2 rfl) ?_
      by_cases c3 : x2 = (0 : Int32)
      · rw [if_pos c3] at hm
        refine lv_lookup (tgt := 44) S.1 S.2.1 dX0_tell_17 (by decide) (by rw [c3] <;> rfl) (by decide) ?_
        refine lv_aload_n S.1 S.2.1 dX0_tell_44 rfl (lv_at hl 0 rfl) ?_
        refine g_get (k := 50) (ci := 0) (f := 0) (v := .ref (ad 51))  S C kiX0_tell_X0 kfX0_tell_11 rfl (by decide) shC_50 rfl rfl dX0_tell_45 ?_
        refine lv_iload_n S.1 S.2.1 dX0_tell_48 rfl (lv_at hl 1 rfl) ?_
        obtain ⟨h4, hm⟩ := ck_ok hm
        refine g_lald S C (k := 51) shC_51 h4 dX0_tell_49 ?_
        exact gRetl S hr hlk C (Option.some.inj hm) rfl dX0_tell_50
      · rw [if_neg c3] at hm
        by_cases c5 : x2 = (1 : Int32)
        · rw [if_pos c5] at hm
          refine lv_lookup (tgt := 51) S.1 S.2.1 dX0_tell_17 (by decide) (by rw [c5] <;> rfl) (by decide) ?_
          refine lv_aload_n S.1 S.2.1 dX0_tell_51 rfl (lv_at hl 0 rfl) ?_
          refine g_get (k := 50) (ci := 0) (f := 1) (v := .ref (ad 52))  S C kiX0_tell_X0 kfX0_tell_15 rfl (by decide) shC_50 rfl rfl dX0_tell_52 ?_
          refine lv_iload_n S.1 S.2.1 dX0_tell_55 rfl (lv_at hl 1 rfl) ?_
          obtain ⟨h6, hm⟩ := ck_ok hm
          refine g_iald S C (k := 52) shC_52 h6 dX0_tell_56 ?_
          refine lv_i2l (v := (M.1 52 x1.toNatClampNeg).toInt64) S.1 S.2.1 dX0_tell_57 rfl ?_
          exact gRetl S hr hlk C (Option.some.inj hm) rfl dX0_tell_58
        · rw [if_neg c5] at hm
          refine lv_lookup (tgt := 59) S.1 S.2.1 dX0_tell_17 (by decide) (lkX0_tell_17 c3 c5) (by decide) ?_
          refine lv_ldc2 (v := (-1 : Int64)) S.1 S.2.1 S.2.2.2.1 (S.2.2.2.2 _ kcX0_tell_33) dX0_tell_59 ?_
          exact gRetl S hr hlk C (Option.some.inj hm) rfl dX0_tell_62
    · rw [if_neg c2] at hm
      refine lv_ldc2 (v := (-1 : Int64)) S.1 S.2.1 S.2.2.2.1 (S.2.2.2.2 _ kcX0_tell_33) dX0_tell_12 ?_
      exact gRetl S hr hlk C (Option.some.inj hm) rfl dX0_tell_15
