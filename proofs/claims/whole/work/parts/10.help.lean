theorem kmX7_mask_210l : Cond.methodLink RX7 210 Lib.Math.min.name ∈ wsX7_mask := by decide +kernel
theorem kmX7_mask_210s : Cond.static Lib.Math.min.name ∈ wsX7_mask := by decide +kernel
theorem kmX7_mask_210i : Cond.initialized "java/lang/Math" ∈ wsX7_mask := by decide +kernel
theorem kmX7_mask_210c : Cond.code Lib.Math.min.name Lib.Math.min.code 2 (some .int) ∈ wsX7_mask := by decide +kernel
theorem kcX7_bitAt_217 : Cond.constant RX7 217 (-2147483648 : Int32) ∈ wsX7_bitAt := by decide +kernel
theorem kcX7_wide_218 : Cond.constantLong RX7 218 (4294967295 : Int64) ∈ wsX7_wide := by decide +kernel
def mX7_isBook (x0 : Int32) : Option Int32 := if x0 < 0 then (some (0 : Int32)) else (if (6 : Int32) ≤ x0 then (some (0 : Int32)) else (some (1 : Int32)))
set_option maxHeartbeats 4000000 in
set_option maxRecDepth 100000 in
theorem c_X7_isBook (l : Launch) (D : va_G) (cy : gCy) (ad : Nat → Nat) (M : gMem) (x0 : Int32) (r0 : Int32) (hm : mX7_isBook x0 = some r0) : Met l yX7_isBook wsX7_isBook (gR 0 0) (va_Pc [.int x0] (gP shC D cy ad M)) (gQi shC D cy ad r0 M) 0 0 (gA shC ad) := by
  refine gEnter (cc := cX7_isBook) (maxL := 1) (ret := (some .boolean)) (by decide) rfl (Nat.le_of_ble_eq_true rfl) ?_
  intro p e s m below meth c ls S hr hlk C hl
  have S : CallFix p m c cX7_isBook 1 s _ wsX7_isBook RX7 := S
  have hl : lv_has ls 1 [(0, .int x0)] := hl
  rw [mX7_isBook] at hm
  refine lv_iload_n S.1 S.2.1 dX7_isBook_0 rfl (lv_at hl 0 rfl) ?_
  refine lv_if_lt (tgt := 14) S.1 S.2.1 dX7_isBook_1 (by decide) (fun c1 => ?_) (fun c1 => ?_)
  · rw [if_pos c1] at hm
    refine lv_iconst (v := (0 : Int32)) S.1 S.2.1 dX7_isBook_14 (by decide) ?_
    exact gRetz S hr hlk C rfl (Option.some.inj hm) rfl dX7_isBook_15
  · rw [if_neg c1] at hm
    refine lv_iload_n S.1 S.2.1 dX7_isBook_4 rfl (lv_at hl 0 rfl) ?_
    refine lv_bipush (v := (6 : Int32)) S.1 S.2.1 dX7_isBook_5 (by decide) ?_
    refine lv_icmp_ge (tgt := 14) S.1 S.2.1 dX7_isBook_7 (by decide) (fun c2 => ?_) (fun c2 => ?_)
    · rw [if_pos c2] at hm
      refine lv_iconst (v := (0 : Int32)) S.1 S.2.1 dX7_isBook_14 (by decide) ?_
      exact gRetz S hr hlk C rfl (Option.some.inj hm) rfl dX7_isBook_15
    · rw [if_neg c2] at hm
      refine lv_iconst (v := (1 : Int32)) S.1 S.2.1 dX7_isBook_10 (by decide) ?_
      refine lv_goto (tgt := 15) S.1 S.2.1 dX7_isBook_11 (by decide) ?_
      exact gRetz S hr hlk C rfl (Option.some.inj hm) rfl dX7_isBook_15
def mX7_isGoal (x0 : Int32) : Option Int32 := if x0 < 0 then (some (0 : Int32)) else (if (16 : Int32) < x0 then (some (0 : Int32)) else (some (1 : Int32)))
set_option maxHeartbeats 4000000 in
set_option maxRecDepth 100000 in
theorem c_X7_isGoal (l : Launch) (D : va_G) (cy : gCy) (ad : Nat → Nat) (M : gMem) (x0 : Int32) (r0 : Int32) (hm : mX7_isGoal x0 = some r0) : Met l yX7_isGoal wsX7_isGoal (gR 0 0) (va_Pc [.int x0] (gP shC D cy ad M)) (gQi shC D cy ad r0 M) 0 0 (gA shC ad) := by
  refine gEnter (cc := cX7_isGoal) (maxL := 1) (ret := (some .boolean)) (by decide) rfl (Nat.le_of_ble_eq_true rfl) ?_
  intro p e s m below meth c ls S hr hlk C hl
  have S : CallFix p m c cX7_isGoal 1 s _ wsX7_isGoal RX7 := S
  have hl : lv_has ls 1 [(0, .int x0)] := hl
  rw [mX7_isGoal] at hm
  refine lv_iload_n S.1 S.2.1 dX7_isGoal_0 rfl (lv_at hl 0 rfl) ?_
  refine lv_if_lt (tgt := 14) S.1 S.2.1 dX7_isGoal_1 (by decide) (fun c1 => ?_) (fun c1 => ?_)
  · rw [if_pos c1] at hm
    refine lv_iconst (v := (0 : Int32)) S.1 S.2.1 dX7_isGoal_14 (by decide) ?_
    exact gRetz S hr hlk C rfl (Option.some.inj hm) rfl dX7_isGoal_15
  · rw [if_neg c1] at hm
    refine lv_iload_n S.1 S.2.1 dX7_isGoal_4 rfl (lv_at hl 0 rfl) ?_
    refine lv_bipush (v := (16 : Int32)) S.1 S.2.1 dX7_isGoal_5 (by decide) ?_
    refine lv_icmp_gt (tgt := 14) S.1 S.2.1 dX7_isGoal_7 (by decide) (fun c2 => ?_) (fun c2 => ?_)
    · rw [if_pos c2] at hm
      refine lv_iconst (v := (0 : Int32)) S.1 S.2.1 dX7_isGoal_14 (by decide) ?_
      exact gRetz S hr hlk C rfl (Option.some.inj hm) rfl dX7_isGoal_15
    · rw [if_neg c2] at hm
      refine lv_iconst (v := (1 : Int32)) S.1 S.2.1 dX7_isGoal_10 (by decide) ?_
      refine lv_goto (tgt := 15) S.1 S.2.1 dX7_isGoal_11 (by decide) ?_
      exact gRetz S hr hlk C rfl (Option.some.inj hm) rfl dX7_isGoal_15
def mX7_mask (x0 : Int32) : Option Int32 := if 0 < x0 then (some ((-1 : Int32) <<< (((32 : Int32) - (if (32 : Int32) < x0 then (32 : Int32) else x0)) &&& 31))) else (some (0 : Int32))
set_option maxHeartbeats 4000000 in
set_option maxRecDepth 100000 in
theorem c_X7_mask (l : Launch) (D : va_G) (cy : gCy) (ad : Nat → Nat) (M : gMem) (x0 : Int32) (r0 : Int32) (hm : mX7_mask x0 = some r0) : Met l yX7_mask wsX7_mask (gR 1 23) (va_Pc [.int x0] (gP shC D cy ad M)) (gQi shC D cy ad r0 M) 0 0 (gA shC ad) := by
  refine gEnter (cc := cX7_mask) (maxL := 1) (ret := (some .int)) (by decide) rfl (Nat.le_of_ble_eq_true rfl) ?_
  intro p e s m below meth c ls S hr hlk C hl
  have S : CallFix p m c cX7_mask 1 s _ wsX7_mask RX7 := S
  have hl : lv_has ls 1 [(0, .int x0)] := hl
  rw [mX7_mask] at hm
  refine lv_iload_n S.1 S.2.1 dX7_mask_0 rfl (lv_at hl 0 rfl) ?_
  refine lv_if_gt (tgt := 8) S.1 S.2.1 dX7_mask_1 (by decide) (fun c1 => ?_) (fun c1 => ?_)
  · rw [if_pos c1] at hm
    refine lv_iconst (v := (-1 : Int32)) S.1 S.2.1 dX7_mask_8 (by decide) ?_
    refine lv_bipush (v := (32 : Int32)) S.1 S.2.1 dX7_mask_9 (by decide) ?_
    refine lv_iload_n S.1 S.2.1 dX7_mask_11 rfl (lv_at hl 0 rfl) ?_
    refine lv_bipush (v := (32 : Int32)) S.1 S.2.1 dX7_mask_12 (by decide) ?_
    refine va_mmin S.1 S.2.1 (S.2.2.1.trans hl.1.symm) S.2.2.2.1 (S.2.2.2.2 _ kmX7_mask_210l) (S.2.2.2.2 _ kmX7_mask_210s) (S.2.2.2.2 _ kmX7_mask_210i) (S.2.2.2.2 _ kmX7_mask_210c) (rest := [.int (32 : Int32), .int (-1 : Int32)]) (Nat.le_of_ble_eq_true rfl) (Nat.le_of_ble_eq_true rfl) (Nat.le_refl _) (Nat.le_refl _) dX7_mask_14 ?_
    refine lv_isub S.1 S.2.1 dX7_mask_17 ?_
    refine lv_ishl S.1 S.2.1 dX7_mask_18 ?_
    exact gReti S hr hlk C (Option.some.inj hm) rfl dX7_mask_19
  · rw [if_neg c1] at hm
    refine lv_iconst (v := (0 : Int32)) S.1 S.2.1 dX7_mask_4 (by decide) ?_
    refine lv_goto (tgt := 19) S.1 S.2.1 dX7_mask_5 (by decide) ?_
    exact gReti S hr hlk C (Option.some.inj hm) rfl dX7_mask_19
def mX7_isBeginning (x0 : Int32) (x1 : Int32) : Option Int32 := if x1 < 0 then (some (0 : Int32)) else (if (32 : Int32) < x1 then (some (0 : Int32)) else ((mX7_mask x1).bind fun r3 => if (x0 &&& (r3 ^^^ (-1 : Int32))) = 0 then (some (1 : Int32)) else (some (0 : Int32))))
set_option maxHeartbeats 4000000 in
set_option maxRecDepth 100000 in
theorem c_X7_isBeginning (l : Launch) (D : va_G) (cy : gCy) (ad : Nat → Nat) (M : gMem) (x0 : Int32) (x1 : Int32) (r0 : Int32) (hm : mX7_isBeginning x0 x1 = some r0) : Met l yX7_isBeginning wsX7_isBeginning (gR 2 43) (va_Pc [.int x0, .int x1] (gP shC D cy ad M)) (gQi shC D cy ad r0 M) 0 0 (gA shC ad) := by
  refine gEnter (cc := cX7_isBeginning) (maxL := 2) (ret := (some .boolean)) (by decide) rfl (Nat.le_of_ble_eq_true rfl) ?_
  intro p e s m below meth c ls S hr hlk C hl
  have S : CallFix p m c cX7_isBeginning 2 s _ wsX7_isBeginning RX7 := S
  have hl : lv_has ls 2 [(0, .int x0), (1, .int x1)] := hl
  rw [mX7_isBeginning] at hm
  refine lv_iload_n S.1 S.2.1 dX7_isBeginning_0 rfl (lv_at hl 1 rfl) ?_
  refine lv_if_lt (tgt := 25) S.1 S.2.1 dX7_isBeginning_1 (by decide) (fun c1 => ?_) (fun c1 => ?_)
  · rw [if_pos c1] at hm
    refine lv_iconst (v := (0 : Int32)) S.1 S.2.1 dX7_isBeginning_25 (by decide) ?_
    exact gRetz S hr hlk C rfl (Option.some.inj hm) rfl dX7_isBeginning_26
  · rw [if_neg c1] at hm
    refine lv_iload_n S.1 S.2.1 dX7_isBeginning_4 rfl (lv_at hl 1 rfl) ?_
    refine lv_bipush (v := (32 : Int32)) S.1 S.2.1 dX7_isBeginning_5 (by decide) ?_
    refine lv_icmp_gt (tgt := 25) S.1 S.2.1 dX7_isBeginning_7 (by decide) (fun c2 => ?_) (fun c2 => ?_)
    · rw [if_pos c2] at hm
      refine lv_iconst (v := (0 : Int32)) S.1 S.2.1 dX7_isBeginning_25 (by decide) ?_
      exact gRetz S hr hlk C rfl (Option.some.inj hm) rfl dX7_isBeginning_26
    · rw [if_neg c2] at hm
      refine lv_iload_n S.1 S.2.1 dX7_isBeginning_10 rfl (lv_at hl 0 rfl) ?_
      refine lv_iload_n S.1 S.2.1 dX7_isBeginning_11 rfl (lv_at hl 1 rfl) ?_
      obtain ⟨r3, hcr3, hm⟩ := bd_ok hm
      refine gC_i C (gRS (As := [.int x1]) (rest := [.int x0]) 1 S C (c_X7_mask l D cy ad M x1 r3 hcr3) gX7_isBeginning_X7_mask rfl (by decide +kernel) (by decide) rfl hl.1 rfl (Nat.le_of_ble_eq_true rfl) dX7_isBeginning_12) (fun H locs C => ?_)
      refine lv_iconst (v := (-1 : Int32)) S.1 S.2.1 dX7_isBeginning_15 (by decide) ?_
      refine lv_ixor S.1 S.2.1 dX7_isBeginning_16 ?_
      refine lv_iand S.1 S.2.1 dX7_isBeginning_17 ?_
      refine lv_if_ne (tgt := 25) S.1 S.2.1 dX7_isBeginning_18 (by decide) (fun c4 => ?_) (fun c4 => ?_)
      · rw [if_neg c4] at hm
        refine lv_iconst (v := (0 : Int32)) S.1 S.2.1 dX7_isBeginning_25 (by decide) ?_
        exact gRetz S hr hlk C rfl (Option.some.inj hm) rfl dX7_isBeginning_26
      · rw [if_pos c4] at hm
        refine lv_iconst (v := (1 : Int32)) S.1 S.2.1 dX7_isBeginning_21 (by decide) ?_
        refine lv_goto (tgt := 26) S.1 S.2.1 dX7_isBeginning_22 (by decide) ?_
        exact gRetz S hr hlk C rfl (Option.some.inj hm) rfl dX7_isBeginning_26
def mX7_begins (x0 : Int32) (x1 : Int32) (x2 : Int32) : Option Int32 := (mX7_mask x2).bind fun r1 => if (x0 &&& r1) = x1 then (some (1 : Int32)) else (some (0 : Int32))
set_option maxHeartbeats 4000000 in
set_option maxRecDepth 100000 in
theorem c_X7_begins (l : Launch) (D : va_G) (cy : gCy) (ad : Nat → Nat) (M : gMem) (x0 : Int32) (x1 : Int32) (x2 : Int32) (r0 : Int32) (hm : mX7_begins x0 x1 x2 = some r0) : Met l yX7_begins wsX7_begins (gR 2 43) (va_Pc [.int x0, .int x1, .int x2] (gP shC D cy ad M)) (gQi shC D cy ad r0 M) 0 0 (gA shC ad) := by
  refine gEnter (cc := cX7_begins) (maxL := 3) (ret := (some .boolean)) (by decide) rfl (Nat.le_of_ble_eq_true rfl) ?_
  intro p e s m below meth c ls S hr hlk C hl
  have S : CallFix p m c cX7_begins 3 s _ wsX7_begins RX7 := S
  have hl : lv_has ls 3 [(0, .int x0), (1, .int x1), (2, .int x2)] := hl
  rw [mX7_begins] at hm
  refine lv_iload_n S.1 S.2.1 dX7_begins_0 rfl (lv_at hl 0 rfl) ?_
  refine lv_iload_n S.1 S.2.1 dX7_begins_1 rfl (lv_at hl 2 rfl) ?_
  obtain ⟨r1, hcr1, hm⟩ := bd_ok hm
  refine gC_i C (gRS (As := [.int x2]) (rest := [.int x0]) 1 S C (c_X7_mask l D cy ad M x2 r1 hcr1) gX7_begins_X7_mask rfl (by decide +kernel) (by decide) rfl hl.1 rfl (Nat.le_of_ble_eq_true rfl) dX7_begins_2) (fun H locs C => ?_)
  refine lv_iand S.1 S.2.1 dX7_begins_5 ?_
  refine lv_iload_n S.1 S.2.1 dX7_begins_6 rfl (lv_at hl 1 rfl) ?_
  refine lv_icmp_ne (tgt := 14) S.1 S.2.1 dX7_begins_7 (by decide) (fun c2 => ?_) (fun c2 => ?_)
  · rw [if_neg c2] at hm
    refine lv_iconst (v := (0 : Int32)) S.1 S.2.1 dX7_begins_14 (by decide) ?_
    exact gRetz S hr hlk C rfl (Option.some.inj hm) rfl dX7_begins_15
  · rw [if_pos c2] at hm
    refine lv_iconst (v := (1 : Int32)) S.1 S.2.1 dX7_begins_10 (by decide) ?_
    refine lv_goto (tgt := 15) S.1 S.2.1 dX7_begins_11 (by decide) ?_
    exact gRetz S hr hlk C rfl (Option.some.inj hm) rfl dX7_begins_15
def mX7_bitAt (x0 : Int32) : Option Int32 := some (ush (-2147483648 : Int32) x0)
set_option maxHeartbeats 4000000 in
set_option maxRecDepth 100000 in
theorem c_X7_bitAt (l : Launch) (D : va_G) (cy : gCy) (ad : Nat → Nat) (M : gMem) (x0 : Int32) (r0 : Int32) (hm : mX7_bitAt x0 = some r0) : Met l yX7_bitAt wsX7_bitAt (gR 0 0) (va_Pc [.int x0] (gP shC D cy ad M)) (gQi shC D cy ad r0 M) 0 0 (gA shC ad) := by
  refine gEnter (cc := cX7_bitAt) (maxL := 1) (ret := (some .int)) (by decide) rfl (Nat.le_of_ble_eq_true rfl) ?_
  intro p e s m below meth c ls S hr hlk C hl
  have S : CallFix p m c cX7_bitAt 1 s _ wsX7_bitAt RX7 := S
  have hl : lv_has ls 1 [(0, .int x0)] := hl
  rw [mX7_bitAt] at hm
  refine lv_ldc (v := (-2147483648 : Int32)) S.1 S.2.1 S.2.2.2.1 (S.2.2.2.2 _ kcX7_bitAt_217) dX7_bitAt_0 ?_
  refine lv_iload_n S.1 S.2.1 dX7_bitAt_2 rfl (lv_at hl 0 rfl) ?_
  refine lv_iushr (v := (ush (-2147483648 : Int32) x0)) S.1 S.2.1 dX7_bitAt_3 rfl ?_
  exact gReti S hr hlk C (Option.some.inj hm) rfl dX7_bitAt_4
def mX7_wide (x0 : Int32) : Option Int64 := some ((x0.toInt64) &&& (4294967295 : Int64))
set_option maxHeartbeats 4000000 in
set_option maxRecDepth 100000 in
theorem c_X7_wide (l : Launch) (D : va_G) (cy : gCy) (ad : Nat → Nat) (M : gMem) (x0 : Int32) (r0 : Int64) (hm : mX7_wide x0 = some r0) : Met l yX7_wide wsX7_wide (gR 0 0) (va_Pc [.int x0] (gP shC D cy ad M)) (gQl shC D cy ad r0 M) 0 0 (gA shC ad) := by
  refine gEnter (cc := cX7_wide) (maxL := 1) (ret := (some .long)) (by decide) rfl (Nat.le_of_ble_eq_true rfl) ?_
  intro p e s m below meth c ls S hr hlk C hl
  have S : CallFix p m c cX7_wide 1 s _ wsX7_wide RX7 := S
  have hl : lv_has ls 1 [(0, .int x0)] := hl
  rw [mX7_wide] at hm
  refine lv_iload_n S.1 S.2.1 dX7_wide_0 rfl (lv_at hl 0 rfl) ?_
  refine lv_i2l (v := x0.toInt64) S.1 S.2.1 dX7_wide_1 rfl ?_
  refine lv_ldc2 (v := (4294967295 : Int64)) S.1 S.2.1 S.2.2.2.1 (S.2.2.2.2 _ kcX7_wide_218) dX7_wide_2 ?_
  refine lv_land S.1 S.2.1 dX7_wide_5 ?_
  exact gRetl S hr hlk C (Option.some.inj hm) rfl dX7_wide_6
