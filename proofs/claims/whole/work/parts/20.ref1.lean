theorem kcX8_number_96 : Cond.constantLong RX8 96 (4294967295 : Int64) ∈ wsX8_number := by decide +kernel
theorem kiX8_at_X8 : ∀ w ∈ wsX80, w ∈ wsX8_at := by decide +kernel
theorem kfX8_at_7 : Cond.fieldLink RX8 7 "PrefixLeaderModel" "many" "[I" ∈ wsX8_at := by decide +kernel
theorem kfX8_at_13 : Cond.fieldLink RX8 13 "PrefixLeaderModel" "address" "[J" ∈ wsX8_at := by decide +kernel
theorem kfX8_at_17 : Cond.fieldLink RX8 17 "PrefixLeaderModel" "bits" "[I" ∈ wsX8_at := by decide +kernel
theorem kiX8_moves_X8 : ∀ w ∈ wsX80, w ∈ wsX8_moves := by decide +kernel
theorem kfX8_moves_13 : Cond.fieldLink RX8 13 "PrefixLeaderModel" "address" "[J" ∈ wsX8_moves := by decide +kernel
theorem kfX8_moves_17 : Cond.fieldLink RX8 17 "PrefixLeaderModel" "bits" "[I" ∈ wsX8_moves := by decide +kernel
theorem kfX8_moves_20 : Cond.fieldLink RX8 20 "PrefixLeaderModel" "goal" "[I" ∈ wsX8_moves := by decide +kernel
theorem kiX8_comes_X8 : ∀ w ∈ wsX80, w ∈ wsX8_comes := by decide +kernel
theorem kfX8_comes_7 : Cond.fieldLink RX8 7 "PrefixLeaderModel" "many" "[I" ∈ wsX8_comes := by decide +kernel
theorem kfX8_comes_13 : Cond.fieldLink RX8 13 "PrefixLeaderModel" "address" "[J" ∈ wsX8_comes := by decide +kernel
theorem kfX8_comes_17 : Cond.fieldLink RX8 17 "PrefixLeaderModel" "bits" "[I" ∈ wsX8_comes := by decide +kernel
theorem kfX8_comes_20 : Cond.fieldLink RX8 20 "PrefixLeaderModel" "goal" "[I" ∈ wsX8_comes := by decide +kernel
theorem kiX8_put_X8 : ∀ w ∈ wsX80, w ∈ wsX8_put := by decide +kernel
theorem kfX8_put_7 : Cond.fieldLink RX8 7 "PrefixLeaderModel" "many" "[I" ∈ wsX8_put := by decide +kernel
theorem kfX8_put_20 : Cond.fieldLink RX8 20 "PrefixLeaderModel" "goal" "[I" ∈ wsX8_put := by decide +kernel
theorem kiX8_drop_X8 : ∀ w ∈ wsX80, w ∈ wsX8_drop := by decide +kernel
theorem kfX8_drop_7 : Cond.fieldLink RX8 7 "PrefixLeaderModel" "many" "[I" ∈ wsX8_drop := by decide +kernel
theorem kiX8_copy_X8 : ∀ w ∈ wsX80, w ∈ wsX8_copy := by decide +kernel
theorem kfX8_copy_7 : Cond.fieldLink RX8 7 "PrefixLeaderModel" "many" "[I" ∈ wsX8_copy := by decide +kernel
theorem kfX8_copy_13 : Cond.fieldLink RX8 13 "PrefixLeaderModel" "address" "[J" ∈ wsX8_copy := by decide +kernel
theorem kfX8_copy_17 : Cond.fieldLink RX8 17 "PrefixLeaderModel" "bits" "[I" ∈ wsX8_copy := by decide +kernel
theorem kfX8_copy_20 : Cond.fieldLink RX8 20 "PrefixLeaderModel" "goal" "[I" ∈ wsX8_copy := by decide +kernel
theorem kiX8_count_X8 : ∀ w ∈ wsX80, w ∈ wsX8_count := by decide +kernel
theorem kfX8_count_7 : Cond.fieldLink RX8 7 "PrefixLeaderModel" "many" "[I" ∈ wsX8_count := by decide +kernel
theorem kcX8_line_124 : Cond.constantLong RX8 124 (-1 : Int64) ∈ wsX8_line := by decide +kernel
theorem kiX8_line_X8 : ∀ w ∈ wsX80, w ∈ wsX8_line := by decide +kernel
theorem kfX8_line_7 : Cond.fieldLink RX8 7 "PrefixLeaderModel" "many" "[I" ∈ wsX8_line := by decide +kernel
theorem kfX8_line_20 : Cond.fieldLink RX8 20 "PrefixLeaderModel" "goal" "[I" ∈ wsX8_line := by decide +kernel
theorem kfX8_line_17 : Cond.fieldLink RX8 17 "PrefixLeaderModel" "bits" "[I" ∈ wsX8_line := by decide +kernel
theorem kfX8_line_13 : Cond.fieldLink RX8 13 "PrefixLeaderModel" "address" "[J" ∈ wsX8_line := by decide +kernel
theorem kiX8_best_X8 : ∀ w ∈ wsX80, w ∈ wsX8_best := by decide +kernel
theorem kfX8_best_7 : Cond.fieldLink RX8 7 "PrefixLeaderModel" "many" "[I" ∈ wsX8_best := by decide +kernel
theorem kfX8_best_13 : Cond.fieldLink RX8 13 "PrefixLeaderModel" "address" "[J" ∈ wsX8_best := by decide +kernel
theorem kfX8_best_17 : Cond.fieldLink RX8 17 "PrefixLeaderModel" "bits" "[I" ∈ wsX8_best := by decide +kernel
theorem kiX8_leads_X8 : ∀ w ∈ wsX80, w ∈ wsX8_leads := by decide +kernel
theorem kfX8_leads_20 : Cond.fieldLink RX8 20 "PrefixLeaderModel" "goal" "[I" ∈ wsX8_leads := by decide +kernel
def mX8_lies (x0 : Int32) (x1 : Int32) (x2 : Int32) : Option Int32 := if x0 < x1 then (some (0 : Int32)) else (if x2 < x0 then (some (0 : Int32)) else (some (1 : Int32)))
set_option maxHeartbeats 4000000 in
set_option maxRecDepth 100000 in
theorem c_X8_lies (l : Launch) (D : va_G) (cy : gCy) (ad : Nat → Nat) (M : gMem) (x0 : Int32) (x1 : Int32) (x2 : Int32) (r0 : Int32) (hm : mX8_lies x0 x1 x2 = some r0) : Met l yX8_lies wsX8_lies (gR 0 0) (va_Pc [.int x0, .int x1, .int x2] (gP shR D cy ad M)) (gQi shR D cy ad r0 M) 0 0 (gA shR ad) := by
  refine gEnter (cc := cX8_lies) (maxL := 3) (ret := (some .boolean)) (by decide) rfl (Nat.le_of_ble_eq_true rfl) ?_
  intro p e s m below meth c ls S hr hlk C hl
  have S : CallFix p m c cX8_lies 3 s _ wsX8_lies RX8 := S
  have hl : lv_has ls 3 [(0, .int x0), (1, .int x1), (2, .int x2)] := hl
  rw [mX8_lies] at hm
  refine lv_iload_n S.1 S.2.1 dX8_lies_0 rfl (lv_at hl 0 rfl) ?_
  refine lv_iload_n S.1 S.2.1 dX8_lies_1 rfl (lv_at hl 1 rfl) ?_
  refine lv_icmp_lt (tgt := 14) S.1 S.2.1 dX8_lies_2 (by decide) (fun c1 => ?_) (fun c1 => ?_)
  · rw [if_pos c1] at hm
    refine lv_iconst (v := (0 : Int32)) S.1 S.2.1 dX8_lies_14 (by decide) ?_
    exact gRetz S hr hlk C rfl (Option.some.inj hm) rfl dX8_lies_15
  · rw [if_neg c1] at hm
    refine lv_iload_n S.1 S.2.1 dX8_lies_5 rfl (lv_at hl 0 rfl) ?_
    refine lv_iload_n S.1 S.2.1 dX8_lies_6 rfl (lv_at hl 2 rfl) ?_
    refine lv_icmp_gt (tgt := 14) S.1 S.2.1 dX8_lies_7 (by decide) (fun c2 => ?_) (fun c2 => ?_)
    · rw [if_pos c2] at hm
      refine lv_iconst (v := (0 : Int32)) S.1 S.2.1 dX8_lies_14 (by decide) ?_
      exact gRetz S hr hlk C rfl (Option.some.inj hm) rfl dX8_lies_15
    · rw [if_neg c2] at hm
      refine lv_iconst (v := (1 : Int32)) S.1 S.2.1 dX8_lies_10 (by decide) ?_
      refine lv_goto (tgt := 15) S.1 S.2.1 dX8_lies_11 (by decide) ?_
      exact gRetz S hr hlk C rfl (Option.some.inj hm) rfl dX8_lies_15
def mX8_isBook (x0 : Int32) : Option Int32 := (mX8_lies x0 (0 : Int32) (5 : Int32)).bind fun r1 => ck (tv r1) (some r1)
set_option maxHeartbeats 4000000 in
set_option maxRecDepth 100000 in
theorem c_X8_isBook (l : Launch) (D : va_G) (cy : gCy) (ad : Nat → Nat) (M : gMem) (x0 : Int32) (r0 : Int32) (hm : mX8_isBook x0 = some r0) : Met l yX8_isBook wsX8_isBook (gR 1 22) (va_Pc [.int x0] (gP shR D cy ad M)) (gQi shR D cy ad r0 M) 0 0 (gA shR ad) := by
  refine gEnter (cc := cX8_isBook) (maxL := 1) (ret := (some .boolean)) (by decide) rfl (Nat.le_of_ble_eq_true rfl) ?_
  intro p e s m below meth c ls S hr hlk C hl
  have S : CallFix p m c cX8_isBook 1 s _ wsX8_isBook RX8 := S
  have hl : lv_has ls 1 [(0, .int x0)] := hl
  rw [mX8_isBook] at hm
  refine lv_iload_n S.1 S.2.1 dX8_isBook_0 rfl (lv_at hl 0 rfl) ?_
  refine lv_iconst (v := (0 : Int32)) S.1 S.2.1 dX8_isBook_1 (by decide) ?_
  refine lv_iconst (v := (5 : Int32)) S.1 S.2.1 dX8_isBook_2 (by decide) ?_
  obtain ⟨r1, hcr1, hm⟩ := bd_ok hm
  refine gC_i C (gRS (As := [.int x0, .int (0 : Int32), .int (5 : Int32)]) (rest := []) 3 S C (c_X8_lies l D cy ad M x0 (0 : Int32) (5 : Int32) r1 hcr1) gX8_isBook_X8_lies rfl (by decide +kernel) (by decide) rfl hl.1 rfl (Nat.le_of_ble_eq_true rfl) dX8_isBook_3) (fun H locs C => ?_)
  obtain ⟨hz, hm⟩ := ck_ok hm
  exact gRetz S hr hlk C (tv_ok hz) (Option.some.inj hm) rfl dX8_isBook_6
def mX8_number (x0 : Int32) : Option Int64 := some ((x0.toInt64) &&& (4294967295 : Int64))
set_option maxHeartbeats 4000000 in
set_option maxRecDepth 100000 in
theorem c_X8_number (l : Launch) (D : va_G) (cy : gCy) (ad : Nat → Nat) (M : gMem) (x0 : Int32) (r0 : Int64) (hm : mX8_number x0 = some r0) : Met l yX8_number wsX8_number (gR 0 0) (va_Pc [.int x0] (gP shR D cy ad M)) (gQl shR D cy ad r0 M) 0 0 (gA shR ad) := by
  refine gEnter (cc := cX8_number) (maxL := 1) (ret := (some .long)) (by decide) rfl (Nat.le_of_ble_eq_true rfl) ?_
  intro p e s m below meth c ls S hr hlk C hl
  have S : CallFix p m c cX8_number 1 s _ wsX8_number RX8 := S
  have hl : lv_has ls 1 [(0, .int x0)] := hl
  rw [mX8_number] at hm
  refine lv_iload_n S.1 S.2.1 dX8_number_0 rfl (lv_at hl 0 rfl) ?_
  refine lv_i2l (v := x0.toInt64) S.1 S.2.1 dX8_number_1 rfl ?_
  refine lv_ldc2 (v := (4294967295 : Int64)) S.1 S.2.1 S.2.2.2.1 (S.2.2.2.2 _ kcX8_number_96) dX8_number_2 ?_
  refine lv_land S.1 S.2.1 dX8_number_5 ?_
  exact gRetl S hr hlk C (Option.some.inj hm) rfl dX8_number_6
def mX8_size (x0 : Int32) : Option Int64 := some ((1 : Int64) <<< (((32 : Int32) - x0).toInt64 &&& 63))
set_option maxHeartbeats 4000000 in
set_option maxRecDepth 100000 in
theorem c_X8_size (l : Launch) (D : va_G) (cy : gCy) (ad : Nat → Nat) (M : gMem) (x0 : Int32) (r0 : Int64) (hm : mX8_size x0 = some r0) : Met l yX8_size wsX8_size (gR 0 0) (va_Pc [.int x0] (gP shR D cy ad M)) (gQl shR D cy ad r0 M) 0 0 (gA shR ad) := by
  refine gEnter (cc := cX8_size) (maxL := 1) (ret := (some .long)) (by decide) rfl (Nat.le_of_ble_eq_true rfl) ?_
  intro p e s m below meth c ls S hr hlk C hl
  have S : CallFix p m c cX8_size 1 s _ wsX8_size RX8 := S
  have hl : lv_has ls 1 [(0, .int x0)] := hl
  rw [mX8_size] at hm
  refine lv_lconst (v := (1 : Int64)) S.1 S.2.1 dX8_size_0 (by decide) ?_
  refine lv_bipush (v := (32 : Int32)) S.1 S.2.1 dX8_size_1 (by decide) ?_
  refine lv_iload_n S.1 S.2.1 dX8_size_3 rfl (lv_at hl 0 rfl) ?_
  refine lv_isub S.1 S.2.1 dX8_size_4 ?_
  refine lv_lshl (v := ((1 : Int64) <<< (((32 : Int32) - x0).toInt64 &&& 63))) S.1 S.2.1 dX8_size_5 rfl ?_
  exact gRetl S hr hlk C (Option.some.inj hm) rfl dX8_size_6
def mX8_isBeginning (x0 : Int32) (x1 : Int32) : Option Int32 := (mX8_lies x1 (0 : Int32) (32 : Int32)).bind fun r1 => if r1 = 0 then (some (0 : Int32)) else ((mX8_number x0).bind fun r3 => (mX8_size x1).bind fun r4 => ck (nzL r4) <| if (r3 - r3 / r4 * r4) = (0 : Int64) then (some (1 : Int32)) else (some (0 : Int32)))
set_option maxHeartbeats 4000000 in
set_option maxRecDepth 100000 in
theorem c_X8_isBeginning (l : Launch) (D : va_G) (cy : gCy) (ad : Nat → Nat) (M : gMem) (x0 : Int32) (x1 : Int32) (r0 : Int32) (hm : mX8_isBeginning x0 x1 = some r0) : Met l yX8_isBeginning wsX8_isBeginning (gR 1 22) (va_Pc [.int x0, .int x1] (gP shR D cy ad M)) (gQi shR D cy ad r0 M) 0 0 (gA shR ad) := by
  refine gEnter (cc := cX8_isBeginning) (maxL := 2) (ret := (some .boolean)) (by decide) rfl (Nat.le_of_ble_eq_true rfl) ?_
  intro p e s m below meth c ls S hr hlk C hl
  have S : CallFix p m c cX8_isBeginning 2 s _ wsX8_isBeginning RX8 := S
  have hl : lv_has ls 2 [(0, .int x0), (1, .int x1)] := hl
  rw [mX8_isBeginning] at hm
  refine lv_iload_n S.1 S.2.1 dX8_isBeginning_0 rfl (lv_at hl 1 rfl) ?_
  refine lv_iconst (v := (0 : Int32)) S.1 S.2.1 dX8_isBeginning_1 (by decide) ?_
  refine lv_bipush (v := (32 : Int32)) S.1 S.2.1 dX8_isBeginning_2 (by decide) ?_
  obtain ⟨r1, hcr1, hm⟩ := bd_ok hm
  refine gC_i C (gRS (As := [.int x1, .int (0 : Int32), .int (32 : Int32)]) (rest := []) 3 S C (c_X8_lies l D cy ad M x1 (0 : Int32) (32 : Int32) r1 hcr1) gX8_isBeginning_X8_lies rfl (by decide +kernel) (by decide) rfl hl.1 rfl (Nat.le_of_ble_eq_true rfl) dX8_isBeginning_4) (fun H locs C => ?_)
  refine lv_if_eq (tgt := 28) S.1 S.2.1 dX8_isBeginning_7 (by decide) (fun c2 => ?_) (fun c2 => ?_)
  · rw [if_pos c2] at hm
    refine lv_iconst (v := (0 : Int32)) S.1 S.2.1 dX8_isBeginning_28 (by decide) ?_
    exact gRetz S hr hlk C rfl (Option.some.inj hm) rfl dX8_isBeginning_29
  · rw [if_neg c2] at hm
    refine lv_iload_n S.1 S.2.1 dX8_isBeginning_10 rfl (lv_at hl 0 rfl) ?_
    obtain ⟨r3, hcr3, hm⟩ := bd_ok hm
    refine gC_l C (gRS (As := [.int x0]) (rest := []) 1 S C (c_X8_number l D cy ad M x0 r3 hcr3) gX8_isBeginning_X8_number rfl (by decide +kernel) (by decide) rfl hl.1 rfl (Nat.le_of_ble_eq_true rfl) dX8_isBeginning_11) (fun H locs C => ?_)
    refine lv_iload_n S.1 S.2.1 dX8_isBeginning_14 rfl (lv_at hl 1 rfl) ?_
    obtain ⟨r4, hcr4, hm⟩ := bd_ok hm
    refine gC_l C (gRS (As := [.int x1]) (rest := [.long r3]) 1 S C (c_X8_size l D cy ad M x1 r4 hcr4) gX8_isBeginning_X8_size rfl (by decide +kernel) (by decide) rfl hl.1 rfl (Nat.le_of_ble_eq_true rfl) dX8_isBeginning_15) (fun H locs C => ?_)
    obtain ⟨h5, hm⟩ := ck_ok hm
    refine lv_lrem S.1 S.2.1 dX8_isBeginning_18 (nzL_ok h5) ?_
    refine lv_lconst (v := (0 : Int64)) S.1 S.2.1 dX8_isBeginning_19 (by decide) ?_
    refine W.lcmp S.1 S.2.1 dX8_isBeginning_20 ?_
    refine lv_if_ne (tgt := 28) S.1 S.2.1 dX8_isBeginning_21 (by decide) (fun c6 => ?_) (fun c6 => ?_)
    · rw [if_neg (fun q => c6 (cmp_eq.mpr q))] at hm
      refine lv_iconst (v := (0 : Int32)) S.1 S.2.1 dX8_isBeginning_28 (by decide) ?_
      exact gRetz S hr hlk C rfl (Option.some.inj hm) rfl dX8_isBeginning_29
    · rw [if_pos (cmp_eq.mp c6)] at hm
      refine lv_iconst (v := (1 : Int32)) S.1 S.2.1 dX8_isBeginning_24 (by decide) ?_
      refine lv_goto (tgt := 29) S.1 S.2.1 dX8_isBeginning_25 (by decide) ?_
      exact gRetz S hr hlk C rfl (Option.some.inj hm) rfl dX8_isBeginning_29
def mX8_begins (x0 : Int64) (x2 : Int64) (x4 : Int32) : Option Int32 := (mX8_size x4).bind fun r1 => ck (nzL r1) <| (mX8_size x4).bind fun r3 => ck (nzL r3) <| if (x0 / r1) = (x2 / r3) then (some (1 : Int32)) else (some (0 : Int32))
set_option maxHeartbeats 4000000 in
set_option maxRecDepth 100000 in
theorem c_X8_begins (l : Launch) (D : va_G) (cy : gCy) (ad : Nat → Nat) (M : gMem) (x0 : Int64) (x2 : Int64) (x4 : Int32) (r0 : Int32) (hm : mX8_begins x0 x2 x4 = some r0) : Met l yX8_begins wsX8_begins (gR 1 20) (va_Pc [.long x0, .long x2, .int x4] (gP shR D cy ad M)) (gQi shR D cy ad r0 M) 0 0 (gA shR ad) := by
  refine gEnter (cc := cX8_begins) (maxL := 5) (ret := (some .boolean)) (by decide) rfl (Nat.le_of_ble_eq_true rfl) ?_
  intro p e s m below meth c ls S hr hlk C hl
  have S : CallFix p m c cX8_begins 5 s _ wsX8_begins RX8 := S
  have hl : lv_has ls 5 [(0, .long x0), (2, .long x2), (4, .int x4)] := hl
  rw [mX8_begins] at hm
  refine lv_lload_n S.1 S.2.1 dX8_begins_0 rfl (lv_at hl 0 rfl) ?_
  refine lv_iload S.1 S.2.1 dX8_begins_1 (lv_at hl 2 rfl) ?_
  obtain ⟨r1, hcr1, hm⟩ := bd_ok hm
  refine gC_l C (gRS (As := [.int x4]) (rest := [.long x0]) 1 S C (c_X8_size l D cy ad M x4 r1 hcr1) gX8_begins_X8_size rfl (by decide +kernel) (by decide) rfl hl.1 rfl (Nat.le_of_ble_eq_true rfl) dX8_begins_3) (fun H locs C => ?_)
  obtain ⟨h2, hm⟩ := ck_ok hm
  refine lv_ldiv S.1 S.2.1 dX8_begins_6 (nzL_ok h2) ?_
  refine lv_lload_n S.1 S.2.1 dX8_begins_7 rfl (lv_at hl 1 rfl) ?_
  refine lv_iload S.1 S.2.1 dX8_begins_8 (lv_at hl 2 rfl) ?_
  obtain ⟨r3, hcr3, hm⟩ := bd_ok hm
  refine gC_l C (gRS (As := [.int x4]) (rest := [.long x2, .long (x0 / r1)]) 1 S C (c_X8_size l D cy ad M x4 r3 hcr3) gX8_begins_X8_size rfl (by decide +kernel) (by decide) rfl hl.1 rfl (Nat.le_of_ble_eq_true rfl) dX8_begins_10) (fun H locs C => ?_)
  obtain ⟨h4, hm⟩ := ck_ok hm
  refine lv_ldiv S.1 S.2.1 dX8_begins_13 (nzL_ok h4) ?_
  refine W.lcmp S.1 S.2.1 dX8_begins_14 ?_
  refine lv_if_ne (tgt := 22) S.1 S.2.1 dX8_begins_15 (by decide) (fun c5 => ?_) (fun c5 => ?_)
  · rw [if_neg (fun q => c5 (cmp_eq.mpr q))] at hm
    refine lv_iconst (v := (0 : Int32)) S.1 S.2.1 dX8_begins_22 (by decide) ?_
    exact gRetz S hr hlk C rfl (Option.some.inj hm) rfl dX8_begins_23
  · rw [if_pos (cmp_eq.mp c5)] at hm
    refine lv_iconst (v := (1 : Int32)) S.1 S.2.1 dX8_begins_18 (by decide) ?_
    refine lv_goto (tgt := 23) S.1 S.2.1 dX8_begins_19 (by decide) ?_
    exact gRetz S hr hlk C rfl (Option.some.inj hm) rfl dX8_begins_23
def mX8_at_3 : Nat → gMem → Int32 → Int64 → Int32 → Int32 → Option Int32
  | 0, _, _, _, _, _ => none
  | n + 1, M, x1, x2, x4, x5 => ck (inb x1 6) <| if (M.1 1 x1.toNatClampNeg) ≤ x5 then (some (-1 : Int32)) else (ck (inb (((64 : Int32) * x1) + x5) 384) <| if (M.2 2 (((64 : Int32) * x1) + x5).toNatClampNeg) = x2 then (ck (inb (((64 : Int32) * x1) + x5) 384) <| if (M.1 3 (((64 : Int32) * x1) + x5).toNatClampNeg) = x4 then (some x5) else (nmd (x5 + (1 : Int32)) fun y8 => mX8_at_3 n M x1 x2 x4 y8)) else (nmd (x5 + (1 : Int32)) fun y5 => mX8_at_3 n M x1 x2 x4 y5))
def mX8_at (M : gMem) (x1 : Int32) (x2 : Int64) (x4 : Int32) : Option Int32 := mX8_at_3 FU M x1 x2 x4 (0 : Int32)
set_option maxHeartbeats 4000000 in
set_option maxRecDepth 100000 in
theorem wX8_at_3 {p : Program} {l : Launch} {e : Env} {s : State} {m : MethodId} {args : Array Value} {below : List Frame} {meth : Method} {c : Code} {D : va_G} {cy : gCy} {ad : Nat → Nat} {M : gMem} {r0 : Int32} (S : CallFix p m c cX8_at 6 s args wsX8_at RX8) (hr : meth.sig.returnType = (some .int)) (hlk : meth.locks = false) : ∀ (n : Nat), ∀ (H : Heap) (locs : List Loc), gW shR D cy ad s s.heap M H locs → ∀ (x1 : Int32) (x2 : Int64) (x4 : Int32) (x5 : Int32), ∀ (ls : Array Slot), lv_has ls 6 [(0, .ref (ad 0)), (1, .int x1), (2, .long x2), (4, .int x4), (5, .int x5)] → mX8_at_3 n M x1 x2 x4 x5 = some r0 → W p l e (gR 0 0) s m args below meth c H locs 0 0 (MQ below (gQi shR D cy ad r0 M) args s 0 0 (gA shR ad)) (F0 m 3 ls []) := by
  intro n
  induction n with
  | zero => intro H locs C x1 x2 x4 x5 ls hl hm; exact absurd hm (by simp [mX8_at_3])
  | succ n ih =>
    intro H locs C x1 x2 x4 x5 ls hl hm
    rw [mX8_at_3] at hm
    refine lv_iload S.1 S.2.1 dX8_at_3 (lv_at hl 4 rfl) ?_
    refine lv_aload_n S.1 S.2.1 dX8_at_5 rfl (lv_at hl 0 rfl) ?_
    refine g_get (k := 0) (ci := 7) (f := 0) (v := .ref (ad 1))  S C kiX8_at_X8 kfX8_at_7 rfl (by decide) shR_0 rfl rfl dX8_at_6 ?_
    refine lv_iload_n S.1 S.2.1 dX8_at_9 rfl (lv_at hl 1 rfl) ?_
    obtain ⟨h1, hm⟩ := ck_ok hm
    refine g_iald S C (k := 1) shR_1 h1 dX8_at_10 ?_
    refine lv_icmp_ge (tgt := 57) S.1 S.2.1 dX8_at_11 (by decide) (fun c2 => ?_) (fun c2 => ?_)
    · rw [if_pos c2] at hm
      refine lv_iconst (v := (-1 : Int32)) S.1 S.2.1 dX8_at_57 (by decide) ?_
      exact gReti S hr hlk C (Option.some.inj hm) rfl dX8_at_58
    · rw [if_neg c2] at hm
      refine lv_aload_n S.1 S.2.1 dX8_at_14 rfl (lv_at hl 0 rfl) ?_
      refine g_get (k := 0) (ci := 7) (f := 1) (v := .ref (ad 2))  S C kiX8_at_X8 kfX8_at_13 rfl (by decide) shR_0 rfl rfl dX8_at_15 ?_
      refine lv_bipush (v := (64 : Int32)) S.1 S.2.1 dX8_at_18 (by decide) ?_
      refine lv_iload_n S.1 S.2.1 dX8_at_20 rfl (lv_at hl 1 rfl) ?_
      refine lv_imul S.1 S.2.1 dX8_at_21 ?_
      refine lv_iload S.1 S.2.1 dX8_at_22 (lv_at hl 4 rfl) ?_
      refine lv_iadd S.1 S.2.1 dX8_at_24 ?_
      obtain ⟨h3, hm⟩ := ck_ok hm
      refine g_lald S C (k := 2) shR_2 h3 dX8_at_25 ?_
      refine lv_lload_n S.1 S.2.1 dX8_at_26 rfl (lv_at hl 2 rfl) ?_
      refine W.lcmp S.1 S.2.1 dX8_at_27 ?_
      refine lv_if_ne (tgt := 51) S.1 S.2.1 dX8_at_28 (by decide) (fun c4 => ?_) (fun c4 => ?_)
      · rw [if_neg (fun q => c4 (cmp_eq.mpr q))] at hm
        obtain ⟨y5, ey5, hm⟩ := nmd_ok hm
        refine lv_iinc (v := y5) (lv' := [(5, .int y5), (0, .ref (ad 0)), (1, .int x1), (2, .long x2), (4, .int x4)]) S.1 S.2.1 dX8_at_51 hl (k := 4) rfl (by rw [ey5]; rfl) (by decide) rfl (fun ls hl => ?_)
        refine lv_goto (tgt := 3) S.1 S.2.1 dX8_at_54 (by decide) ?_
        exact ih _ _ C x1 x2 x4 y5 ls (lv_sub hl [1, 2, 3, 4, 0] rfl) hm
      · rw [if_pos (cmp_eq.mp c4)] at hm
        refine lv_aload_n S.1 S.2.1 dX8_at_31 rfl (lv_at hl 0 rfl) ?_
        refine g_get (k := 0) (ci := 7) (f := 2) (v := .ref (ad 3))  S C kiX8_at_X8 kfX8_at_17 rfl (by decide) shR_0 rfl rfl dX8_at_32 ?_
        refine lv_bipush (v := (64 : Int32)) S.1 S.2.1 dX8_at_35 (by decide) ?_
        refine lv_iload_n S.1 S.2.1 dX8_at_37 rfl (lv_at hl 1 rfl) ?_
        refine lv_imul S.1 S.2.1 dX8_at_38 ?_
        refine lv_iload S.1 S.2.1 dX8_at_39 (lv_at hl 4 rfl) ?_
        refine lv_iadd S.1 S.2.1 dX8_at_41 ?_
        obtain ⟨h6, hm⟩ := ck_ok hm
        refine g_iald S C (k := 3) shR_3 h6 dX8_at_42 ?_
        refine lv_iload S.1 S.2.1 dX8_at_43 (lv_at hl 3 rfl) ?_
        refine lv_icmp_ne (tgt := 51) S.1 S.2.1 dX8_at_45 (by decide) (fun c7 => ?_) (fun c7 => ?_)
        · rw [if_neg c7] at hm
          obtain ⟨y8, ey8, hm⟩ := nmd_ok hm
          refine lv_iinc (v := y8) (lv' := [(5, .int y8), (0, .ref (ad 0)), (1, .int x1), (2, .long x2), (4, .int x4)]) S.1 S.2.1 dX8_at_51 hl (k := 4) rfl (by rw [ey8]; rfl) (by decide) rfl (fun ls hl => ?_)
          refine lv_goto (tgt := 3) S.1 S.2.1 dX8_at_54 (by decide) ?_
          exact ih _ _ C x1 x2 x4 y8 ls (lv_sub hl [1, 2, 3, 4, 0] rfl) hm
        · rw [if_pos c7] at hm
          refine lv_iload S.1 S.2.1 dX8_at_48 (lv_at hl 4 rfl) ?_
          exact gReti S hr hlk C (Option.some.inj hm) rfl dX8_at_50
set_option maxHeartbeats 4000000 in
set_option maxRecDepth 100000 in
theorem c_X8_at (l : Launch) (D : va_G) (cy : gCy) (ad : Nat → Nat) (M : gMem) (x1 : Int32) (x2 : Int64) (x4 : Int32) (r0 : Int32) (hm : mX8_at M x1 x2 x4 = some r0) : Met l yX8_at wsX8_at (gR 0 0) (va_Pc [.ref (ad 0), .int x1, .long x2, .int x4] (gP shR D cy ad M)) (gQi shR D cy ad r0 M) 0 0 (gA shR ad) := by
  refine gEnter (cc := cX8_at) (maxL := 6) (ret := (some .int)) (by decide) rfl (Nat.le_of_ble_eq_true rfl) ?_
  intro p e s m below meth c ls S hr hlk C hl
  have S : CallFix p m c cX8_at 6 s _ wsX8_at RX8 := S
  have hl : lv_has ls 6 [(0, .ref (ad 0)), (1, .int x1), (2, .long x2), (4, .int x4)] := hl
  rw [mX8_at] at hm
  refine lv_iconst (v := (0 : Int32)) S.1 S.2.1 dX8_at_0 (by decide) ?_
  refine lv_istore (lv' := [(5, .int (0 : Int32)), (0, .ref (ad 0)), (1, .int x1), (2, .long x2), (4, .int x4)]) S.1 S.2.1 dX8_at_1 hl (by decide) rfl (fun ls hl => ?_)
  exact wX8_at_3 S hr hlk FU _ _ C x1 x2 x4 (0 : Int32) ls (lv_sub hl [1, 2, 3, 4, 0] rfl) hm
def mX8_moves (M : gMem) (x1 : Int32) (x2 : Int32) (x3 : Int32) : Option gMem := ck (inb (((64 : Int32) * x1) + x2) 384) <| ck (inb (((64 : Int32) * x1) + x3) 384) <| nmd (sJ M 2 (((64 : Int32) * x1) + x3).toNatClampNeg (M.2 2 (((64 : Int32) * x1) + x2).toNatClampNeg)) fun M3 => ck (inb (((64 : Int32) * x1) + x2) 384) <| ck (inb (((64 : Int32) * x1) + x3) 384) <| nmd (sI M3 3 (((64 : Int32) * x1) + x3).toNatClampNeg (M3.1 3 (((64 : Int32) * x1) + x2).toNatClampNeg)) fun M6 => ck (inb (((64 : Int32) * x1) + x2) 384) <| ck (inb (((64 : Int32) * x1) + x3) 384) <| nmd (sI M6 4 (((64 : Int32) * x1) + x3).toNatClampNeg (M6.1 4 (((64 : Int32) * x1) + x2).toNatClampNeg)) fun M9 => some M9
set_option maxHeartbeats 4000000 in
set_option maxRecDepth 100000 in
theorem c_X8_moves (l : Launch) (D : va_G) (cy : gCy) (ad : Nat → Nat) (M : gMem) (x1 : Int32) (x2 : Int32) (x3 : Int32) (r0 : gMem) (hm : mX8_moves M x1 x2 x3 = some r0) : Met l yX8_moves wsX8_moves (gR 0 0) (va_Pc [.ref (ad 0), .int x1, .int x2, .int x3] (gP shR D cy ad M)) (gQv shR D cy ad r0) 0 0 (gA shR ad) := by
  refine gEnter (cc := cX8_moves) (maxL := 4) (ret := none) (by decide) rfl (Nat.le_of_ble_eq_true rfl) ?_
  intro p e s m below meth c ls S hr hlk C hl
  have S : CallFix p m c cX8_moves 4 s _ wsX8_moves RX8 := S
  have hl : lv_has ls 4 [(0, .ref (ad 0)), (1, .int x1), (2, .int x2), (3, .int x3)] := hl
  rw [mX8_moves] at hm
  refine lv_aload_n S.1 S.2.1 dX8_moves_0 rfl (lv_at hl 0 rfl) ?_
  refine g_get (k := 0) (ci := 7) (f := 1) (v := .ref (ad 2))  S C kiX8_moves_X8 kfX8_moves_13 rfl (by decide) shR_0 rfl rfl dX8_moves_1 ?_
  refine lv_bipush (v := (64 : Int32)) S.1 S.2.1 dX8_moves_4 (by decide) ?_
  refine lv_iload_n S.1 S.2.1 dX8_moves_6 rfl (lv_at hl 1 rfl) ?_
  refine lv_imul S.1 S.2.1 dX8_moves_7 ?_
  refine lv_iload_n S.1 S.2.1 dX8_moves_8 rfl (lv_at hl 3 rfl) ?_
  refine lv_iadd S.1 S.2.1 dX8_moves_9 ?_
  refine lv_aload_n S.1 S.2.1 dX8_moves_10 rfl (lv_at hl 0 rfl) ?_
  refine g_get (k := 0) (ci := 7) (f := 1) (v := .ref (ad 2))  S C kiX8_moves_X8 kfX8_moves_13 rfl (by decide) shR_0 rfl rfl dX8_moves_11 ?_
  refine lv_bipush (v := (64 : Int32)) S.1 S.2.1 dX8_moves_14 (by decide) ?_
  refine lv_iload_n S.1 S.2.1 dX8_moves_16 rfl (lv_at hl 1 rfl) ?_
  refine lv_imul S.1 S.2.1 dX8_moves_17 ?_
  refine lv_iload_n S.1 S.2.1 dX8_moves_18 rfl (lv_at hl 2 rfl) ?_
  refine lv_iadd S.1 S.2.1 dX8_moves_19 ?_
  obtain ⟨h1, hm⟩ := ck_ok hm
  refine g_lald S C (k := 2) shR_2 h1 dX8_moves_20 ?_
  obtain ⟨h2, hm⟩ := ck_ok hm
  obtain ⟨M3, eM3, hm⟩ := nmd_ok hm
  refine g_last S C (k := 2) shR_2 h2 dX8_moves_21 (fun H locs C => ?_)
  rw [← eM3] at C
  refine lv_aload_n S.1 S.2.1 dX8_moves_22 rfl (lv_at hl 0 rfl) ?_
  refine g_get (k := 0) (ci := 7) (f := 2) (v := .ref (ad 3))  S C kiX8_moves_X8 kfX8_moves_17 rfl (by decide) shR_0 rfl rfl dX8_moves_23 ?_
  refine lv_bipush (v := (64 : Int32)) S.1 S.2.1 dX8_moves_26 (by decide) ?_
  refine lv_iload_n S.1 S.2.1 dX8_moves_28 rfl (lv_at hl 1 rfl) ?_
  refine lv_imul S.1 S.2.1 dX8_moves_29 ?_
  refine lv_iload_n S.1 S.2.1 dX8_moves_30 rfl (lv_at hl 3 rfl) ?_
  refine lv_iadd S.1 S.2.1 dX8_moves_31 ?_
  refine lv_aload_n S.1 S.2.1 dX8_moves_32 rfl (lv_at hl 0 rfl) ?_
  refine g_get (k := 0) (ci := 7) (f := 2) (v := .ref (ad 3))  S C kiX8_moves_X8 kfX8_moves_17 rfl (by decide) shR_0 rfl rfl dX8_moves_33 ?_
  refine lv_bipush (v := (64 : Int32)) S.1 S.2.1 dX8_moves_36 (by decide) ?_
  refine lv_iload_n S.1 S.2.1 dX8_moves_38 rfl (lv_at hl 1 rfl) ?_
  refine lv_imul S.1 S.2.1 dX8_moves_39 ?_
  refine lv_iload_n S.1 S.2.1 dX8_moves_40 rfl (lv_at hl 2 rfl) ?_
  refine lv_iadd S.1 S.2.1 dX8_moves_41 ?_
  obtain ⟨h4, hm⟩ := ck_ok hm
  refine g_iald S C (k := 3) shR_3 h4 dX8_moves_42 ?_
  obtain ⟨h5, hm⟩ := ck_ok hm
  obtain ⟨M6, eM6, hm⟩ := nmd_ok hm
  refine g_iast S C (k := 3) shR_3 h5 dX8_moves_43 (fun H locs C => ?_)
  rw [← eM6] at C
  refine lv_aload_n S.1 S.2.1 dX8_moves_44 rfl (lv_at hl 0 rfl) ?_
  refine g_get (k := 0) (ci := 7) (f := 3) (v := .ref (ad 4))  S C kiX8_moves_X8 kfX8_moves_20 rfl (by decide) shR_0 rfl rfl dX8_moves_45 ?_
  refine lv_bipush (v := (64 : Int32)) S.1 S.2.1 dX8_moves_48 (by decide) ?_
  refine lv_iload_n S.1 S.2.1 dX8_moves_50 rfl (lv_at hl 1 rfl) ?_
  refine lv_imul S.1 S.2.1 dX8_moves_51 ?_
  refine lv_iload_n S.1 S.2.1 dX8_moves_52 rfl (lv_at hl 3 rfl) ?_
  refine lv_iadd S.1 S.2.1 dX8_moves_53 ?_
  refine lv_aload_n S.1 S.2.1 dX8_moves_54 rfl (lv_at hl 0 rfl) ?_
  refine g_get (k := 0) (ci := 7) (f := 3) (v := .ref (ad 4))  S C kiX8_moves_X8 kfX8_moves_20 rfl (by decide) shR_0 rfl rfl dX8_moves_55 ?_
  refine lv_bipush (v := (64 : Int32)) S.1 S.2.1 dX8_moves_58 (by decide) ?_
  refine lv_iload_n S.1 S.2.1 dX8_moves_60 rfl (lv_at hl 1 rfl) ?_
  refine lv_imul S.1 S.2.1 dX8_moves_61 ?_
  refine lv_iload_n S.1 S.2.1 dX8_moves_62 rfl (lv_at hl 2 rfl) ?_
  refine lv_iadd S.1 S.2.1 dX8_moves_63 ?_
  obtain ⟨h7, hm⟩ := ck_ok hm
  refine g_iald S C (k := 4) shR_4 h7 dX8_moves_64 ?_
  obtain ⟨h8, hm⟩ := ck_ok hm
  obtain ⟨M9, eM9, hm⟩ := nmd_ok hm
  refine g_iast S C (k := 4) shR_4 h8 dX8_moves_65 (fun H locs C => ?_)
  rw [← eM9] at C
  exact gRetv S hr hlk C (Option.some.inj hm) dX8_moves_66
def mX8_comes_87 (M : gMem) (x1 : Int32) (x2 : Int64) (x4 : Int32) (x5 : Int32) (x6 : Int32) : Option gMem := ck (inb (((64 : Int32) * x1) + x6) 384) <| nmd (sJ M 2 (((64 : Int32) * x1) + x6).toNatClampNeg x2) fun M2 => ck (inb (((64 : Int32) * x1) + x6) 384) <| nmd (sI M2 3 (((64 : Int32) * x1) + x6).toNatClampNeg x4) fun M4 => ck (inb (((64 : Int32) * x1) + x6) 384) <| nmd (sI M4 4 (((64 : Int32) * x1) + x6).toNatClampNeg x5) fun M6 => ck (inb x1 6) <| ck (inb x1 6) <| nmd (sI M6 1 x1.toNatClampNeg ((M6.1 1 x1.toNatClampNeg) + (1 : Int32))) fun M9 => some M9
def mX8_comes_70 (k8 : gMem → Int32 → Int64 → Int32 → Int32 → Int32 → Option gMem) (M : gMem) (x1 : Int32) (x2 : Int64) (x4 : Int32) (x5 : Int32) (x6 : Int32) : Option gMem := (mX8_moves M x1 (x6 - (1 : Int32)) x6).bind fun r1 => nmd (x6 + (-1 : Int32)) fun y2 => k8 r1 x1 x2 x4 x5 y2
def mX8_comes_8 : Nat → gMem → Int32 → Int64 → Int32 → Int32 → Int32 → Option gMem
  | 0, _, _, _, _, _, _ => none
  | n + 1, M, x1, x2, x4, x5, x6 => if x6 ≤ 0 then (mX8_comes_87 M x1 x2 x4 x5 x6) else (ck (inb ((((64 : Int32) * x1) + x6) - (1 : Int32)) 384) <| if x2 < (M.2 2 ((((64 : Int32) * x1) + x6) - (1 : Int32)).toNatClampNeg) then (mX8_comes_70 (mX8_comes_8 n) M x1 x2 x4 x5 x6) else (ck (inb ((((64 : Int32) * x1) + x6) - (1 : Int32)) 384) <| if (M.2 2 ((((64 : Int32) * x1) + x6) - (1 : Int32)).toNatClampNeg) = x2 then (ck (inb ((((64 : Int32) * x1) + x6) - (1 : Int32)) 384) <| if (M.1 3 ((((64 : Int32) * x1) + x6) - (1 : Int32)).toNatClampNeg) ≤ x4 then (mX8_comes_87 M x1 x2 x4 x5 x6) else (mX8_comes_70 (mX8_comes_8 n) M x1 x2 x4 x5 x6)) else (mX8_comes_87 M x1 x2 x4 x5 x6)))
def mX8_comes (M : gMem) (x1 : Int32) (x2 : Int64) (x4 : Int32) (x5 : Int32) : Option gMem := ck (inb x1 6) <| nmd (M.1 1 x1.toNatClampNeg) fun y2 => mX8_comes_8 FU M x1 x2 x4 x5 y2
set_option maxHeartbeats 4000000 in
set_option maxRecDepth 100000 in
theorem wX8_comes_87 {p : Program} {l : Launch} {e : Env} {s : State} {m : MethodId} {args : Array Value} {below : List Frame} {meth : Method} {c : Code} {D : va_G} {cy : gCy} {ad : Nat → Nat} {r0 : gMem} (S : CallFix p m c cX8_comes 7 s args wsX8_comes RX8) (hr : meth.sig.returnType = none) (hlk : meth.locks = false) : ∀ (M : gMem) (H : Heap) (locs : List Loc), gW shR D cy ad s s.heap M H locs → ∀ (x1 : Int32) (x2 : Int64) (x4 : Int32) (x5 : Int32) (x6 : Int32), ∀ (ls : Array Slot), lv_has ls 7 [(0, .ref (ad 0)), (1, .int x1), (2, .long x2), (4, .int x4), (5, .int x5), (6, .int x6)] → mX8_comes_87 M x1 x2 x4 x5 x6 = some r0 → W p l e (gR 1 23) s m args below meth c H locs 0 0 (MQ below (gQv shR D cy ad r0) args s 0 0 (gA shR ad)) (F0 m 87 ls []) := by
  intro M H locs C x1 x2 x4 x5 x6 ls hl hm
  rw [mX8_comes_87] at hm
  refine lv_aload_n S.1 S.2.1 dX8_comes_87 rfl (lv_at hl 0 rfl) ?_
  refine g_get (k := 0) (ci := 7) (f := 1) (v := .ref (ad 2))  S C kiX8_comes_X8 kfX8_comes_13 rfl (by decide) shR_0 rfl rfl dX8_comes_88 ?_
  refine lv_bipush (v := (64 : Int32)) S.1 S.2.1 dX8_comes_91 (by decide) ?_
  refine lv_iload_n S.1 S.2.1 dX8_comes_93 rfl (lv_at hl 1 rfl) ?_
  refine lv_imul S.1 S.2.1 dX8_comes_94 ?_
  refine lv_iload S.1 S.2.1 dX8_comes_95 (lv_at hl 5 rfl) ?_
  refine lv_iadd S.1 S.2.1 dX8_comes_97 ?_
  refine lv_lload_n S.1 S.2.1 dX8_comes_98 rfl (lv_at hl 2 rfl) ?_
  obtain ⟨h1, hm⟩ := ck_ok hm
  obtain ⟨M2, eM2, hm⟩ := nmd_ok hm
  refine g_last S C (k := 2) shR_2 h1 dX8_comes_99 (fun H locs C => ?_)
  rw [← eM2] at C
  refine lv_aload_n S.1 S.2.1 dX8_comes_100 rfl (lv_at hl 0 rfl) ?_
  refine g_get (k := 0) (ci := 7) (f := 2) (v := .ref (ad 3))  S C kiX8_comes_X8 kfX8_comes_17 rfl (by decide) shR_0 rfl rfl dX8_comes_101 ?_
  refine lv_bipush (v := (64 : Int32)) S.1 S.2.1 dX8_comes_104 (by decide) ?_
  refine lv_iload_n S.1 S.2.1 dX8_comes_106 rfl (lv_at hl 1 rfl) ?_
  refine lv_imul S.1 S.2.1 dX8_comes_107 ?_
  refine lv_iload S.1 S.2.1 dX8_comes_108 (lv_at hl 5 rfl) ?_
  refine lv_iadd S.1 S.2.1 dX8_comes_110 ?_
  refine lv_iload S.1 S.2.1 dX8_comes_111 (lv_at hl 3 rfl) ?_
  obtain ⟨h3, hm⟩ := ck_ok hm
  obtain ⟨M4, eM4, hm⟩ := nmd_ok hm
  refine g_iast S C (k := 3) shR_3 h3 dX8_comes_113 (fun H locs C => ?_)
  rw [← eM4] at C
  refine lv_aload_n S.1 S.2.1 dX8_comes_114 rfl (lv_at hl 0 rfl) ?_
  refine g_get (k := 0) (ci := 7) (f := 3) (v := .ref (ad 4))  S C kiX8_comes_X8 kfX8_comes_20 rfl (by decide) shR_0 rfl rfl dX8_comes_115 ?_
  refine lv_bipush (v := (64 : Int32)) S.1 S.2.1 dX8_comes_118 (by decide) ?_
  refine lv_iload_n S.1 S.2.1 dX8_comes_120 rfl (lv_at hl 1 rfl) ?_
  refine lv_imul S.1 S.2.1 dX8_comes_121 ?_
  refine lv_iload S.1 S.2.1 dX8_comes_122 (lv_at hl 5 rfl) ?_
  refine lv_iadd S.1 S.2.1 dX8_comes_124 ?_
  refine lv_iload S.1 S.2.1 dX8_comes_125 (lv_at hl 4 rfl) ?_
  obtain ⟨h5, hm⟩ := ck_ok hm
  obtain ⟨M6, eM6, hm⟩ := nmd_ok hm
  refine g_iast S C (k := 4) shR_4 h5 dX8_comes_127 (fun H locs C => ?_)
  rw [← eM6] at C
  refine lv_aload_n S.1 S.2.1 dX8_comes_128 rfl (lv_at hl 0 rfl) ?_
  refine g_get (k := 0) (ci := 7) (f := 0) (v := .ref (ad 1))  S C kiX8_comes_X8 kfX8_comes_7 rfl (by decide) shR_0 rfl rfl dX8_comes_129 ?_
  refine lv_iload_n S.1 S.2.1 dX8_comes_132 rfl (lv_at hl 1 rfl) ?_
  refine lv_dup2_11 S.1 S.2.1 dX8_comes_133 rfl rfl ?_
  obtain ⟨h7, hm⟩ := ck_ok hm
  refine g_iald S C (k := 1) shR_1 h7 dX8_comes_134 ?_
  refine lv_iconst (v := (1 : Int32)) S.1 S.2.1 dX8_comes_135 (by decide) ?_
  refine lv_iadd S.1 S.2.1 dX8_comes_136 ?_
  obtain ⟨h8, hm⟩ := ck_ok hm
  obtain ⟨M9, eM9, hm⟩ := nmd_ok hm
  refine g_iast S C (k := 1) shR_1 h8 dX8_comes_137 (fun H locs C => ?_)
  rw [← eM9] at C
  exact gRetv S hr hlk C (Option.some.inj hm) dX8_comes_138
set_option maxHeartbeats 4000000 in
set_option maxRecDepth 100000 in
theorem wX8_comes_70 {p : Program} {l : Launch} {e : Env} {s : State} {m : MethodId} {args : Array Value} {below : List Frame} {meth : Method} {c : Code} {D : va_G} {cy : gCy} {ad : Nat → Nat} {r0 : gMem} (S : CallFix p m c cX8_comes 7 s args wsX8_comes RX8) (hr : meth.sig.returnType = none) (hlk : meth.locks = false) {k8 : gMem → Int32 → Int64 → Int32 → Int32 → Int32 → Option gMem} (kk8 : ∀ (M : gMem) (H : Heap) (locs : List Loc), gW shR D cy ad s s.heap M H locs → ∀ (x1 : Int32) (x2 : Int64) (x4 : Int32) (x5 : Int32) (x6 : Int32), ∀ (ls : Array Slot), lv_has ls 7 [(0, .ref (ad 0)), (1, .int x1), (2, .long x2), (4, .int x4), (5, .int x5), (6, .int x6)] → k8 M x1 x2 x4 x5 x6 = some r0 → W p l e (gR 1 23) s m args below meth c H locs 0 0 (MQ below (gQv shR D cy ad r0) args s 0 0 (gA shR ad)) (F0 m 8 ls [])) : ∀ (M : gMem) (H : Heap) (locs : List Loc), gW shR D cy ad s s.heap M H locs → ∀ (x1 : Int32) (x2 : Int64) (x4 : Int32) (x5 : Int32) (x6 : Int32), ∀ (ls : Array Slot), lv_has ls 7 [(0, .ref (ad 0)), (1, .int x1), (2, .long x2), (4, .int x4), (5, .int x5), (6, .int x6)] → mX8_comes_70 k8 M x1 x2 x4 x5 x6 = some r0 → W p l e (gR 1 23) s m args below meth c H locs 0 0 (MQ below (gQv shR D cy ad r0) args s 0 0 (gA shR ad)) (F0 m 70 ls []) := by
  intro M H locs C x1 x2 x4 x5 x6 ls hl hm
  rw [mX8_comes_70] at hm
  refine lv_aload_n S.1 S.2.1 dX8_comes_70 rfl (lv_at hl 0 rfl) ?_
  refine lv_iload_n S.1 S.2.1 dX8_comes_71 rfl (lv_at hl 1 rfl) ?_
  refine lv_iload S.1 S.2.1 dX8_comes_72 (lv_at hl 5 rfl) ?_
  refine lv_iconst (v := (1 : Int32)) S.1 S.2.1 dX8_comes_74 (by decide) ?_
  refine lv_isub S.1 S.2.1 dX8_comes_75 ?_
  refine lv_iload S.1 S.2.1 dX8_comes_76 (lv_at hl 5 rfl) ?_
  obtain ⟨r1, hcr1, hm⟩ := bd_ok hm
  refine gC_v C (gRV (k := 0) (ci := 7) (r := (RX8, TX8, 34)) (As := [.int x1, .int (x6 - (1 : Int32)), .int x6]) (rest := []) 3 S C (c_X8_moves l D cy ad M x1 (x6 - (1 : Int32)) x6 r1 hcr1) gX8_comes_X8_moves rfl (by decide +kernel) (by decide) shR_0 rfl rfl rfl hl.1 rfl (Nat.le_of_ble_eq_true rfl) dX8_comes_78) (fun H locs C => ?_)
  obtain ⟨y2, ey2, hm⟩ := nmd_ok hm
  refine lv_iinc (v := y2) (lv' := [(6, .int y2), (0, .ref (ad 0)), (1, .int x1), (2, .long x2), (4, .int x4), (5, .int x5)]) S.1 S.2.1 dX8_comes_81 hl (k := 5) rfl (by rw [ey2]; rfl) (by decide) rfl (fun ls hl => ?_)
  refine lv_goto (tgt := 8) S.1 S.2.1 dX8_comes_84 (by decide) ?_
  exact kk8 r1 _ _ C x1 x2 x4 x5 y2 ls (lv_sub hl [1, 2, 3, 4, 5, 0] rfl) hm
set_option maxHeartbeats 4000000 in
set_option maxRecDepth 100000 in
theorem wX8_comes_8 {p : Program} {l : Launch} {e : Env} {s : State} {m : MethodId} {args : Array Value} {below : List Frame} {meth : Method} {c : Code} {D : va_G} {cy : gCy} {ad : Nat → Nat} {r0 : gMem} (S : CallFix p m c cX8_comes 7 s args wsX8_comes RX8) (hr : meth.sig.returnType = none) (hlk : meth.locks = false) : ∀ (n : Nat), ∀ (M : gMem) (H : Heap) (locs : List Loc), gW shR D cy ad s s.heap M H locs → ∀ (x1 : Int32) (x2 : Int64) (x4 : Int32) (x5 : Int32) (x6 : Int32), ∀ (ls : Array Slot), lv_has ls 7 [(0, .ref (ad 0)), (1, .int x1), (2, .long x2), (4, .int x4), (5, .int x5), (6, .int x6)] → mX8_comes_8 n M x1 x2 x4 x5 x6 = some r0 → W p l e (gR 1 23) s m args below meth c H locs 0 0 (MQ below (gQv shR D cy ad r0) args s 0 0 (gA shR ad)) (F0 m 8 ls []) := by
  intro n
  induction n with
  | zero => intro M H locs C x1 x2 x4 x5 x6 ls hl hm; exact absurd hm (by simp [mX8_comes_8])
  | succ n ih =>
    intro M H locs C x1 x2 x4 x5 x6 ls hl hm
    rw [mX8_comes_8] at hm
    refine lv_iload S.1 S.2.1 dX8_comes_8 (lv_at hl 5 rfl) ?_
    refine lv_if_le (tgt := 87) S.1 S.2.1 dX8_comes_10 (by decide) (fun c1 => ?_) (fun c1 => ?_)
    · rw [if_pos c1] at hm
      exact wX8_comes_87 S hr hlk M _ _ C x1 x2 x4 x5 x6 ls (lv_sub hl [0, 1, 2, 3, 4, 5] rfl) hm
    · rw [if_neg c1] at hm
      refine lv_aload_n S.1 S.2.1 dX8_comes_13 rfl (lv_at hl 0 rfl) ?_
      refine g_get (k := 0) (ci := 7) (f := 1) (v := .ref (ad 2))  S C kiX8_comes_X8 kfX8_comes_13 rfl (by decide) shR_0 rfl rfl dX8_comes_14 ?_
      refine lv_bipush (v := (64 : Int32)) S.1 S.2.1 dX8_comes_17 (by decide) ?_
      refine lv_iload_n S.1 S.2.1 dX8_comes_19 rfl (lv_at hl 1 rfl) ?_
      refine lv_imul S.1 S.2.1 dX8_comes_20 ?_
      refine lv_iload S.1 S.2.1 dX8_comes_21 (lv_at hl 5 rfl) ?_
      refine lv_iadd S.1 S.2.1 dX8_comes_23 ?_
      refine lv_iconst (v := (1 : Int32)) S.1 S.2.1 dX8_comes_24 (by decide) ?_
      refine lv_isub S.1 S.2.1 dX8_comes_25 ?_
      obtain ⟨h2, hm⟩ := ck_ok hm
      refine g_lald S C (k := 2) shR_2 h2 dX8_comes_26 ?_
      refine lv_lload_n S.1 S.2.1 dX8_comes_27 rfl (lv_at hl 2 rfl) ?_
      refine W.lcmp S.1 S.2.1 dX8_comes_28 ?_
      refine lv_if_gt (tgt := 70) S.1 S.2.1 dX8_comes_29 (by decide) (fun c3 => ?_) (fun c3 => ?_)
      · rw [if_pos (cmp_gt.mp c3)] at hm
        exact wX8_comes_70 S hr hlk ih M _ _ C x1 x2 x4 x5 x6 ls (lv_sub hl [0, 1, 2, 3, 4, 5] rfl) hm
      · rw [if_neg (fun q => c3 (cmp_gt.mpr q))] at hm
        refine lv_aload_n S.1 S.2.1 dX8_comes_32 rfl (lv_at hl 0 rfl) ?_
        refine g_get (k := 0) (ci := 7) (f := 1) (v := .ref (ad 2))  S C kiX8_comes_X8 kfX8_comes_13 rfl (by decide) shR_0 rfl rfl dX8_comes_33 ?_
        refine lv_bipush (v := (64 : Int32)) S.1 S.2.1 dX8_comes_36 (by decide) ?_
        refine lv_iload_n S.1 S.2.1 dX8_comes_38 rfl (lv_at hl 1 rfl) ?_
        refine lv_imul S.1 S.2.1 dX8_comes_39 ?_
        refine lv_iload S.1 S.2.1 dX8_comes_40 (lv_at hl 5 rfl) ?_
        refine lv_iadd S.1 S.2.1 dX8_comes_42 ?_
        refine lv_iconst (v := (1 : Int32)) S.1 S.2.1 dX8_comes_43 (by decide) ?_
        refine lv_isub S.1 S.2.1 dX8_comes_44 ?_
        obtain ⟨h4, hm⟩ := ck_ok hm
        refine g_lald S C (k := 2) shR_2 h4 dX8_comes_45 ?_
        refine lv_lload_n S.1 S.2.1 dX8_comes_46 rfl (lv_at hl 2 rfl) ?_
        refine W.lcmp S.1 S.2.1 dX8_comes_47 ?_
        refine lv_if_ne (tgt := 87) S.1 S.2.1 dX8_comes_48 (by decide) (fun c5 => ?_) (fun c5 => ?_)
        · rw [if_neg (fun q => c5 (cmp_eq.mpr q))] at hm
          exact wX8_comes_87 S hr hlk M _ _ C x1 x2 x4 x5 x6 ls (lv_sub hl [0, 1, 2, 3, 4, 5] rfl) hm
        · rw [if_pos (cmp_eq.mp c5)] at hm
          refine lv_aload_n S.1 S.2.1 dX8_comes_51 rfl (lv_at hl 0 rfl) ?_
          refine g_get (k := 0) (ci := 7) (f := 2) (v := .ref (ad 3))  S C kiX8_comes_X8 kfX8_comes_17 rfl (by decide) shR_0 rfl rfl dX8_comes_52 ?_
          refine lv_bipush (v := (64 : Int32)) S.1 S.2.1 dX8_comes_55 (by decide) ?_
          refine lv_iload_n S.1 S.2.1 dX8_comes_57 rfl (lv_at hl 1 rfl) ?_
          refine lv_imul S.1 S.2.1 dX8_comes_58 ?_
          refine lv_iload S.1 S.2.1 dX8_comes_59 (lv_at hl 5 rfl) ?_
          refine lv_iadd S.1 S.2.1 dX8_comes_61 ?_
          refine lv_iconst (v := (1 : Int32)) S.1 S.2.1 dX8_comes_62 (by decide) ?_
          refine lv_isub S.1 S.2.1 dX8_comes_63 ?_
          obtain ⟨h6, hm⟩ := ck_ok hm
          refine g_iald S C (k := 3) shR_3 h6 dX8_comes_64 ?_
          refine lv_iload S.1 S.2.1 dX8_comes_65 (lv_at hl 3 rfl) ?_
          refine lv_icmp_le (tgt := 87) S.1 S.2.1 dX8_comes_67 (by decide) (fun c7 => ?_) (fun c7 => ?_)
          · rw [if_pos c7] at hm
            exact wX8_comes_87 S hr hlk M _ _ C x1 x2 x4 x5 x6 ls (lv_sub hl [0, 1, 2, 3, 4, 5] rfl) hm
          · rw [if_neg c7] at hm
            exact wX8_comes_70 S hr hlk ih M _ _ C x1 x2 x4 x5 x6 ls (lv_sub hl [0, 1, 2, 3, 4, 5] rfl) hm
set_option maxHeartbeats 4000000 in
set_option maxRecDepth 100000 in
theorem c_X8_comes (l : Launch) (D : va_G) (cy : gCy) (ad : Nat → Nat) (M : gMem) (x1 : Int32) (x2 : Int64) (x4 : Int32) (x5 : Int32) (r0 : gMem) (hm : mX8_comes M x1 x2 x4 x5 = some r0) : Met l yX8_comes wsX8_comes (gR 1 23) (va_Pc [.ref (ad 0), .int x1, .long x2, .int x4, .int x5] (gP shR D cy ad M)) (gQv shR D cy ad r0) 0 0 (gA shR ad) := by
  refine gEnter (cc := cX8_comes) (maxL := 7) (ret := none) (by decide) rfl (Nat.le_of_ble_eq_true rfl) ?_
  intro p e s m below meth c ls S hr hlk C hl
  have S : CallFix p m c cX8_comes 7 s _ wsX8_comes RX8 := S
  have hl : lv_has ls 7 [(0, .ref (ad 0)), (1, .int x1), (2, .long x2), (4, .int x4), (5, .int x5)] := hl
  rw [mX8_comes] at hm
  refine lv_aload_n S.1 S.2.1 dX8_comes_0 rfl (lv_at hl 0 rfl) ?_
  refine g_get (k := 0) (ci := 7) (f := 0) (v := .ref (ad 1))  S C kiX8_comes_X8 kfX8_comes_7 rfl (by decide) shR_0 rfl rfl dX8_comes_1 ?_
  refine lv_iload_n S.1 S.2.1 dX8_comes_4 rfl (lv_at hl 1 rfl) ?_
  obtain ⟨h1, hm⟩ := ck_ok hm
  refine g_iald S C (k := 1) shR_1 h1 dX8_comes_5 ?_
  obtain ⟨y2, ey2, hm⟩ := nmd_ok hm
  refine gNmI ey2 ?_
  refine lv_istore (lv' := [(6, .int y2), (0, .ref (ad 0)), (1, .int x1), (2, .long x2), (4, .int x4), (5, .int x5)]) S.1 S.2.1 dX8_comes_6 hl (by decide) rfl (fun ls hl => ?_)
  exact wX8_comes_8 S hr hlk FU M _ _ C x1 x2 x4 x5 y2 ls (lv_sub hl [1, 2, 3, 4, 5, 0] rfl) hm
def mX8_put (M : gMem) (x1 : Int32) (x2 : Int32) (x3 : Int32) (x4 : Int32) : Option (Int32 × gMem) := (mX8_isBook x1).bind fun r1 => if r1 = 0 then (some ((-1 : Int32), M)) else ((mX8_isBeginning x2 x3).bind fun r3 => if r3 = 0 then (some ((-1 : Int32), M)) else ((mX8_lies x4 (0 : Int32) (16 : Int32)).bind fun r5 => if r5 = 0 then (some ((-1 : Int32), M)) else ((mX8_number x2).bind fun r7 => (mX8_at M x1 r7 x3).bind fun r8 => if r8 = (-1 : Int32) then (ck (inb x1 6) <| if (M.1 1 x1.toNatClampNeg) = (64 : Int32) then (some ((-1 : Int32), M)) else ((mX8_number x2).bind fun r12 => (mX8_comes M x1 r12 x3 x4).bind fun r13 => some ((0 : Int32), r13))) else (ck (inb (((64 : Int32) * x1) + r8) 384) <| nmd (sI M 4 (((64 : Int32) * x1) + r8).toNatClampNeg x4) fun M15 => some ((1 : Int32), M15)))))
set_option maxHeartbeats 4000000 in
set_option maxRecDepth 100000 in
theorem c_X8_put (l : Launch) (D : va_G) (cy : gCy) (ad : Nat → Nat) (M : gMem) (x1 : Int32) (x2 : Int32) (x3 : Int32) (x4 : Int32) (r0 : (Int32 × gMem)) (hm : mX8_put M x1 x2 x3 x4 = some r0) : Met l yX8_put wsX8_put (gR 2 49) (va_Pc [.ref (ad 0), .int x1, .int x2, .int x3, .int x4] (gP shR D cy ad M)) (gQi shR D cy ad r0.1 r0.2) 0 0 (gA shR ad) := by
  refine gEnter (cc := cX8_put) (maxL := 6) (ret := (some .int)) (by decide) rfl (Nat.le_of_ble_eq_true rfl) ?_
  intro p e s m below meth c ls S hr hlk C hl
  have S : CallFix p m c cX8_put 6 s _ wsX8_put RX8 := S
  have hl : lv_has ls 6 [(0, .ref (ad 0)), (1, .int x1), (2, .int x2), (3, .int x3), (4, .int x4)] := hl
  rw [mX8_put] at hm
  refine lv_iload_n S.1 S.2.1 dX8_put_0 rfl (lv_at hl 1 rfl) ?_
  obtain ⟨r1, hcr1, hm⟩ := bd_ok hm
  refine gC_i C (gRS (As := [.int x1]) (rest := []) 1 S C (c_X8_isBook l D cy ad M x1 r1 hcr1) gX8_put_X8_isBook rfl (by decide +kernel) (by decide) rfl hl.1 rfl (Nat.le_of_ble_eq_true rfl) dX8_put_1) (fun H locs C => ?_)
  refine lv_if_eq (tgt := 26) S.1 S.2.1 dX8_put_4 (by decide) (fun c2 => ?_) (fun c2 => ?_)
  · rw [if_pos c2] at hm
    refine lv_iconst (v := (-1 : Int32)) S.1 S.2.1 dX8_put_26 (by decide) ?_
    exact gReti S hr hlk C (pr1 hm) (pr2 hm) dX8_put_27
  · rw [if_neg c2] at hm
    refine lv_iload_n S.1 S.2.1 dX8_put_7 rfl (lv_at hl 2 rfl) ?_
    refine lv_iload_n S.1 S.2.1 dX8_put_8 rfl (lv_at hl 3 rfl) ?_
    obtain ⟨r3, hcr3, hm⟩ := bd_ok hm
    refine gC_i C (gRS (As := [.int x2, .int x3]) (rest := []) 2 S C (c_X8_isBeginning l D cy ad M x2 x3 r3 hcr3) gX8_put_X8_isBeginning rfl (by decide +kernel) (by decide) rfl hl.1 rfl (Nat.le_of_ble_eq_true rfl) dX8_put_9) (fun H locs C => ?_)
    refine lv_if_eq (tgt := 26) S.1 S.2.1 dX8_put_12 (by decide) (fun c4 => ?_) (fun c4 => ?_)
    · rw [if_pos c4] at hm
      refine lv_iconst (v := (-1 : Int32)) S.1 S.2.1 dX8_put_26 (by decide) ?_
      exact gReti S hr hlk C (pr1 hm) (pr2 hm) dX8_put_27
    · rw [if_neg c4] at hm
      refine lv_iload S.1 S.2.1 dX8_put_15 (lv_at hl 4 rfl) ?_
      refine lv_iconst (v := (0 : Int32)) S.1 S.2.1 dX8_put_17 (by decide) ?_
      refine lv_bipush (v := (16 : Int32)) S.1 S.2.1 dX8_put_18 (by decide) ?_
      obtain ⟨r5, hcr5, hm⟩ := bd_ok hm
      refine gC_i C (gRS (As := [.int x4, .int (0 : Int32), .int (16 : Int32)]) (rest := []) 3 S C (c_X8_lies l D cy ad M x4 (0 : Int32) (16 : Int32) r5 hcr5) gX8_put_X8_lies rfl (by decide +kernel) (by decide) rfl hl.1 rfl (Nat.le_of_ble_eq_true rfl) dX8_put_20) (fun H locs C => ?_)
      refine lv_if_ne (tgt := 28) S.1 S.2.1 dX8_put_23 (by decide) (fun c6 => ?_) (fun c6 => ?_)
      · rw [if_neg c6] at hm
        refine lv_aload_n S.1 S.2.1 dX8_put_28 rfl (lv_at hl 0 rfl) ?_
        refine lv_iload_n S.1 S.2.1 dX8_put_29 rfl (lv_at hl 1 rfl) ?_
        refine lv_iload_n S.1 S.2.1 dX8_put_30 rfl (lv_at hl 2 rfl) ?_
        obtain ⟨r7, hcr7, hm⟩ := bd_ok hm
        refine gC_l C (gRS (As := [.int x2]) (rest := [.int x1, .ref (ad 0)]) 1 S C (c_X8_number l D cy ad M x2 r7 hcr7) gX8_put_X8_number rfl (by decide +kernel) (by decide) rfl hl.1 rfl (Nat.le_of_ble_eq_true rfl) dX8_put_31) (fun H locs C => ?_)
        refine lv_iload_n S.1 S.2.1 dX8_put_34 rfl (lv_at hl 3 rfl) ?_
        obtain ⟨r8, hcr8, hm⟩ := bd_ok hm
        refine gC_i C (gRV (k := 0) (ci := 7) (r := (RX8, TX8, 34)) (As := [.int x1, .long r7, .int x3]) (rest := []) 3 S C (c_X8_at l D cy ad M x1 r7 x3 r8 hcr8) gX8_put_X8_at rfl (by decide +kernel) (by decide) shR_0 rfl rfl rfl hl.1 rfl (Nat.le_of_ble_eq_true rfl) dX8_put_35) (fun H locs C => ?_)
        refine lv_istore (lv' := [(5, .int r8), (0, .ref (ad 0)), (1, .int x1), (2, .int x2), (3, .int x3), (4, .int x4)]) S.1 S.2.1 dX8_put_38 hl (by decide) rfl (fun ls hl => ?_)
        refine lv_iload S.1 S.2.1 dX8_put_40 (lv_at hl 0 rfl) ?_
        refine lv_iconst (v := (-1 : Int32)) S.1 S.2.1 dX8_put_42 (by decide) ?_
        refine lv_icmp_eq (tgt := 62) S.1 S.2.1 dX8_put_43 (by decide) (fun c9 => ?_) (fun c9 => ?_)
        · rw [if_pos c9] at hm
          refine lv_aload_n S.1 S.2.1 dX8_put_62 rfl (lv_at hl 1 rfl) ?_
          refine g_get (k := 0) (ci := 7) (f := 0) (v := .ref (ad 1))  S C kiX8_put_X8 kfX8_put_7 rfl (by decide) shR_0 rfl rfl dX8_put_63 ?_
          refine lv_iload_n S.1 S.2.1 dX8_put_66 rfl (lv_at hl 2 rfl) ?_
          obtain ⟨h10, hm⟩ := ck_ok hm
          refine g_iald S C (k := 1) shR_1 h10 dX8_put_67 ?_
          refine lv_bipush (v := (64 : Int32)) S.1 S.2.1 dX8_put_68 (by decide) ?_
          refine lv_icmp_ne (tgt := 75) S.1 S.2.1 dX8_put_70 (by decide) (fun c11 => ?_) (fun c11 => ?_)
          · rw [if_neg c11] at hm
            refine lv_aload_n S.1 S.2.1 dX8_put_75 rfl (lv_at hl 1 rfl) ?_
            refine lv_iload_n S.1 S.2.1 dX8_put_76 rfl (lv_at hl 2 rfl) ?_
            refine lv_iload_n S.1 S.2.1 dX8_put_77 rfl (lv_at hl 3 rfl) ?_
            obtain ⟨r12, hcr12, hm⟩ := bd_ok hm
            refine gC_l C (gRS (As := [.int x2]) (rest := [.int x1, .ref (ad 0)]) 1 S C (c_X8_number l D cy ad M x2 r12 hcr12) gX8_put_X8_number rfl (by decide +kernel) (by decide) rfl hl.1 rfl (Nat.le_of_ble_eq_true rfl) dX8_put_78) (fun H locs C => ?_)
            refine lv_iload_n S.1 S.2.1 dX8_put_81 rfl (lv_at hl 4 rfl) ?_
            refine lv_iload S.1 S.2.1 dX8_put_82 (lv_at hl 5 rfl) ?_
            obtain ⟨r13, hcr13, hm⟩ := bd_ok hm
            refine gC_v C (gRV (k := 0) (ci := 7) (r := (RX8, TX8, 34)) (As := [.int x1, .long r12, .int x3, .int x4]) (rest := []) 4 S C (c_X8_comes l D cy ad M x1 r12 x3 x4 r13 hcr13) gX8_put_X8_comes rfl (by decide +kernel) (by decide) shR_0 rfl rfl rfl hl.1 rfl (Nat.le_of_ble_eq_true rfl) dX8_put_84) (fun H locs C => ?_)
            refine lv_iconst (v := (0 : Int32)) S.1 S.2.1 dX8_put_87 (by decide) ?_
            exact gReti S hr hlk C (pr1 hm) (pr2 hm) dX8_put_88
          · rw [if_pos c11] at hm
            refine lv_iconst (v := (-1 : Int32)) S.1 S.2.1 dX8_put_73 (by decide) ?_
            exact gReti S hr hlk C (pr1 hm) (pr2 hm) dX8_put_74
        · rw [if_neg c9] at hm
          refine lv_aload_n S.1 S.2.1 dX8_put_46 rfl (lv_at hl 1 rfl) ?_
          refine g_get (k := 0) (ci := 7) (f := 3) (v := .ref (ad 4))  S C kiX8_put_X8 kfX8_put_20 rfl (by decide) shR_0 rfl rfl dX8_put_47 ?_
          refine lv_bipush (v := (64 : Int32)) S.1 S.2.1 dX8_put_50 (by decide) ?_
          refine lv_iload_n S.1 S.2.1 dX8_put_52 rfl (lv_at hl 2 rfl) ?_
          refine lv_imul S.1 S.2.1 dX8_put_53 ?_
          refine lv_iload S.1 S.2.1 dX8_put_54 (lv_at hl 0 rfl) ?_
          refine lv_iadd S.1 S.2.1 dX8_put_56 ?_
          refine lv_iload S.1 S.2.1 dX8_put_57 (lv_at hl 5 rfl) ?_
          obtain ⟨h14, hm⟩ := ck_ok hm
          obtain ⟨M15, eM15, hm⟩ := nmd_ok hm
          refine g_iast S C (k := 4) shR_4 h14 dX8_put_59 (fun H locs C => ?_)
          rw [← eM15] at C
          refine lv_iconst (v := (1 : Int32)) S.1 S.2.1 dX8_put_60 (by decide) ?_
          exact gReti S hr hlk C (pr1 hm) (pr2 hm) dX8_put_61
      · rw [if_pos c6] at hm
        refine lv_iconst (v := (-1 : Int32)) S.1 S.2.1 dX8_put_26 (by decide) ?_
        exact gReti S hr hlk C (pr1 hm) (pr2 hm) dX8_put_27
def mX8_drop_53 : Nat → gMem → Int32 → Int32 → Option (Int32 × gMem)
  | 0, _, _, _ => none
  | n + 1, M, x1, x5 => ck (inb x1 6) <| if (M.1 1 x1.toNatClampNeg) ≤ x5 then (some ((1 : Int32), M)) else ((mX8_moves M x1 (x5 + (1 : Int32)) x5).bind fun r3 => nmd (x5 + (1 : Int32)) fun y4 => mX8_drop_53 n r3 x1 y4)
def mX8_drop_29 (M : gMem) (x1 : Int32) (z0 : Int32) : Option (Int32 × gMem) := if z0 = (-1 : Int32) then (some ((0 : Int32), M)) else (ck (inb x1 6) <| ck (inb x1 6) <| nmd (sI M 1 x1.toNatClampNeg ((M.1 1 x1.toNatClampNeg) - (1 : Int32))) fun M4 => mX8_drop_53 FU M4 x1 z0)
def mX8_drop (M : gMem) (x1 : Int32) (x2 : Int32) (x3 : Int32) : Option (Int32 × gMem) := (mX8_isBook x1).bind fun r1 => if r1 = 0 then (mX8_drop_29 M x1 (-1 : Int32)) else ((mX8_isBeginning x2 x3).bind fun r3 => if r3 = 0 then (mX8_drop_29 M x1 (-1 : Int32)) else ((mX8_number x2).bind fun r5 => (mX8_at M x1 r5 x3).bind fun r6 => mX8_drop_29 M x1 r6))
set_option maxHeartbeats 4000000 in
set_option maxRecDepth 100000 in
theorem wX8_drop_53 {p : Program} {l : Launch} {e : Env} {s : State} {m : MethodId} {args : Array Value} {below : List Frame} {meth : Method} {c : Code} {D : va_G} {cy : gCy} {ad : Nat → Nat} {r0 : (Int32 × gMem)} (S : CallFix p m c cX8_drop 6 s args wsX8_drop RX8) (hr : meth.sig.returnType = (some .boolean)) (hlk : meth.locks = false) : ∀ (n : Nat), ∀ (M : gMem) (H : Heap) (locs : List Loc), gW shR D cy ad s s.heap M H locs → ∀ (x1 : Int32) (x5 : Int32), ∀ (ls : Array Slot), lv_has ls 6 [(0, .ref (ad 0)), (1, .int x1), (5, .int x5)] → mX8_drop_53 n M x1 x5 = some r0 → W p l e (gR 2 43) s m args below meth c H locs 0 0 (MQ below (gQi shR D cy ad r0.1 r0.2) args s 0 0 (gA shR ad)) (F0 m 53 ls []) := by
  intro n
  induction n with
  | zero => intro M H locs C x1 x5 ls hl hm; exact absurd hm (by simp [mX8_drop_53])
  | succ n ih =>
    intro M H locs C x1 x5 ls hl hm
    rw [mX8_drop_53] at hm
    refine lv_iload S.1 S.2.1 dX8_drop_53 (lv_at hl 2 rfl) ?_
    refine lv_aload_n S.1 S.2.1 dX8_drop_55 rfl (lv_at hl 0 rfl) ?_
    refine g_get (k := 0) (ci := 7) (f := 0) (v := .ref (ad 1))  S C kiX8_drop_X8 kfX8_drop_7 rfl (by decide) shR_0 rfl rfl dX8_drop_56 ?_
    refine lv_iload_n S.1 S.2.1 dX8_drop_59 rfl (lv_at hl 1 rfl) ?_
    obtain ⟨h1, hm⟩ := ck_ok hm
    refine g_iald S C (k := 1) shR_1 h1 dX8_drop_60 ?_
    refine lv_icmp_ge (tgt := 81) S.1 S.2.1 dX8_drop_61 (by decide) (fun c2 => ?_) (fun c2 => ?_)
    · rw [if_pos c2] at hm
      refine lv_iconst (v := (1 : Int32)) S.1 S.2.1 dX8_drop_81 (by decide) ?_
      exact gRetz S hr hlk C rfl (pr1 hm) (pr2 hm) dX8_drop_82
    · rw [if_neg c2] at hm
      refine lv_aload_n S.1 S.2.1 dX8_drop_64 rfl (lv_at hl 0 rfl) ?_
      refine lv_iload_n S.1 S.2.1 dX8_drop_65 rfl (lv_at hl 1 rfl) ?_
      refine lv_iload S.1 S.2.1 dX8_drop_66 (lv_at hl 2 rfl) ?_
      refine lv_iconst (v := (1 : Int32)) S.1 S.2.1 dX8_drop_68 (by decide) ?_
      refine lv_iadd S.1 S.2.1 dX8_drop_69 ?_
      refine lv_iload S.1 S.2.1 dX8_drop_70 (lv_at hl 2 rfl) ?_
      obtain ⟨r3, hcr3, hm⟩ := bd_ok hm
      refine gC_v C (gRV (k := 0) (ci := 7) (r := (RX8, TX8, 34)) (As := [.int x1, .int (x5 + (1 : Int32)), .int x5]) (rest := []) 3 S C (c_X8_moves l D cy ad M x1 (x5 + (1 : Int32)) x5 r3 hcr3) gX8_drop_X8_moves rfl (by decide +kernel) (by decide) shR_0 rfl rfl rfl hl.1 rfl (Nat.le_of_ble_eq_true rfl) dX8_drop_72) (fun H locs C => ?_)
      obtain ⟨y4, ey4, hm⟩ := nmd_ok hm
      refine lv_iinc (v := y4) (lv' := [(5, .int y4), (0, .ref (ad 0)), (1, .int x1)]) S.1 S.2.1 dX8_drop_75 hl (k := 2) rfl (by rw [ey4]; rfl) (by decide) rfl (fun ls hl => ?_)
      refine lv_goto (tgt := 53) S.1 S.2.1 dX8_drop_78 (by decide) ?_
      exact ih r3 _ _ C x1 y4 ls (lv_sub hl [1, 2, 0] rfl) hm
set_option maxHeartbeats 4000000 in
set_option maxRecDepth 100000 in
theorem wX8_drop_29 {p : Program} {l : Launch} {e : Env} {s : State} {m : MethodId} {args : Array Value} {below : List Frame} {meth : Method} {c : Code} {D : va_G} {cy : gCy} {ad : Nat → Nat} {r0 : (Int32 × gMem)} (S : CallFix p m c cX8_drop 6 s args wsX8_drop RX8) (hr : meth.sig.returnType = (some .boolean)) (hlk : meth.locks = false) : ∀ (M : gMem) (H : Heap) (locs : List Loc), gW shR D cy ad s s.heap M H locs → ∀ (x1 : Int32) (z0 : Int32), ∀ (ls : Array Slot), lv_has ls 6 [(0, .ref (ad 0)), (1, .int x1)] → mX8_drop_29 M x1 z0 = some r0 → W p l e (gR 2 43) s m args below meth c H locs 0 0 (MQ below (gQi shR D cy ad r0.1 r0.2) args s 0 0 (gA shR ad)) (F0 m 29 ls [.int z0]) := by
  intro M H locs C x1 z0 ls hl hm
  rw [mX8_drop_29] at hm
  refine lv_istore (lv' := [(4, .int z0), (0, .ref (ad 0)), (1, .int x1)]) S.1 S.2.1 dX8_drop_29 hl (by decide) rfl (fun ls hl => ?_)
  refine lv_iload S.1 S.2.1 dX8_drop_31 (lv_at hl 0 rfl) ?_
  refine lv_iconst (v := (-1 : Int32)) S.1 S.2.1 dX8_drop_33 (by decide) ?_
  refine lv_icmp_ne (tgt := 39) S.1 S.2.1 dX8_drop_34 (by decide) (fun c1 => ?_) (fun c1 => ?_)
  · rw [if_neg c1] at hm
    refine lv_aload_n S.1 S.2.1 dX8_drop_39 rfl (lv_at hl 1 rfl) ?_
    refine g_get (k := 0) (ci := 7) (f := 0) (v := .ref (ad 1))  S C kiX8_drop_X8 kfX8_drop_7 rfl (by decide) shR_0 rfl rfl dX8_drop_40 ?_
    refine lv_iload_n S.1 S.2.1 dX8_drop_43 rfl (lv_at hl 2 rfl) ?_
    refine lv_dup2_11 S.1 S.2.1 dX8_drop_44 rfl rfl ?_
    obtain ⟨h2, hm⟩ := ck_ok hm
    refine g_iald S C (k := 1) shR_1 h2 dX8_drop_45 ?_
    refine lv_iconst (v := (1 : Int32)) S.1 S.2.1 dX8_drop_46 (by decide) ?_
    refine lv_isub S.1 S.2.1 dX8_drop_47 ?_
    obtain ⟨h3, hm⟩ := ck_ok hm
    obtain ⟨M4, eM4, hm⟩ := nmd_ok hm
    refine g_iast S C (k := 1) shR_1 h3 dX8_drop_48 (fun H locs C => ?_)
    rw [← eM4] at C
    refine lv_iload S.1 S.2.1 dX8_drop_49 (lv_at hl 0 rfl) ?_
    refine lv_istore (lv' := [(5, .int z0), (4, .int z0), (0, .ref (ad 0)), (1, .int x1)]) S.1 S.2.1 dX8_drop_51 hl (by decide) rfl (fun ls hl => ?_)
    exact wX8_drop_53 S hr hlk FU M4 _ _ C x1 z0 ls (lv_sub hl [2, 3, 0] rfl) hm
  · rw [if_pos c1] at hm
    refine lv_iconst (v := (0 : Int32)) S.1 S.2.1 dX8_drop_37 (by decide) ?_
    exact gRetz S hr hlk C rfl (pr1 hm) (pr2 hm) dX8_drop_38
set_option maxHeartbeats 4000000 in
set_option maxRecDepth 100000 in
theorem c_X8_drop (l : Launch) (D : va_G) (cy : gCy) (ad : Nat → Nat) (M : gMem) (x1 : Int32) (x2 : Int32) (x3 : Int32) (r0 : (Int32 × gMem)) (hm : mX8_drop M x1 x2 x3 = some r0) : Met l yX8_drop wsX8_drop (gR 2 43) (va_Pc [.ref (ad 0), .int x1, .int x2, .int x3] (gP shR D cy ad M)) (gQi shR D cy ad r0.1 r0.2) 0 0 (gA shR ad) := by
  refine gEnter (cc := cX8_drop) (maxL := 6) (ret := (some .boolean)) (by decide) rfl (Nat.le_of_ble_eq_true rfl) ?_
  intro p e s m below meth c ls S hr hlk C hl
  have S : CallFix p m c cX8_drop 6 s _ wsX8_drop RX8 := S
  have hl : lv_has ls 6 [(0, .ref (ad 0)), (1, .int x1), (2, .int x2), (3, .int x3)] := hl
  rw [mX8_drop] at hm
  refine lv_iload_n S.1 S.2.1 dX8_drop_0 rfl (lv_at hl 1 rfl) ?_
  obtain ⟨r1, hcr1, hm⟩ := bd_ok hm
  refine gC_i C (gRS (As := [.int x1]) (rest := []) 1 S C (c_X8_isBook l D cy ad M x1 r1 hcr1) gX8_drop_X8_isBook rfl (by decide +kernel) (by decide) rfl hl.1 rfl (Nat.le_of_ble_eq_true rfl) dX8_drop_1) (fun H locs C => ?_)
  refine lv_if_eq (tgt := 28) S.1 S.2.1 dX8_drop_4 (by decide) (fun c2 => ?_) (fun c2 => ?_)
  · rw [if_pos c2] at hm
    refine lv_iconst (v := (-1 : Int32)) S.1 S.2.1 dX8_drop_28 (by decide) ?_
    exact wX8_drop_29 S hr hlk M _ _ C x1 (-1 : Int32) ls (lv_sub hl [0, 1] rfl) hm
  · rw [if_neg c2] at hm
    refine lv_iload_n S.1 S.2.1 dX8_drop_7 rfl (lv_at hl 2 rfl) ?_
    refine lv_iload_n S.1 S.2.1 dX8_drop_8 rfl (lv_at hl 3 rfl) ?_
    obtain ⟨r3, hcr3, hm⟩ := bd_ok hm
    refine gC_i C (gRS (As := [.int x2, .int x3]) (rest := []) 2 S C (c_X8_isBeginning l D cy ad M x2 x3 r3 hcr3) gX8_drop_X8_isBeginning rfl (by decide +kernel) (by decide) rfl hl.1 rfl (Nat.le_of_ble_eq_true rfl) dX8_drop_9) (fun H locs C => ?_)
    refine lv_if_eq (tgt := 28) S.1 S.2.1 dX8_drop_12 (by decide) (fun c4 => ?_) (fun c4 => ?_)
    · rw [if_pos c4] at hm
      refine lv_iconst (v := (-1 : Int32)) S.1 S.2.1 dX8_drop_28 (by decide) ?_
      exact wX8_drop_29 S hr hlk M _ _ C x1 (-1 : Int32) ls (lv_sub hl [0, 1] rfl) hm
    · rw [if_neg c4] at hm
      refine lv_aload_n S.1 S.2.1 dX8_drop_15 rfl (lv_at hl 0 rfl) ?_
      refine lv_iload_n S.1 S.2.1 dX8_drop_16 rfl (lv_at hl 1 rfl) ?_
      refine lv_iload_n S.1 S.2.1 dX8_drop_17 rfl (lv_at hl 2 rfl) ?_
      obtain ⟨r5, hcr5, hm⟩ := bd_ok hm
      refine gC_l C (gRS (As := [.int x2]) (rest := [.int x1, .ref (ad 0)]) 1 S C (c_X8_number l D cy ad M x2 r5 hcr5) gX8_drop_X8_number rfl (by decide +kernel) (by decide) rfl hl.1 rfl (Nat.le_of_ble_eq_true rfl) dX8_drop_18) (fun H locs C => ?_)
      refine lv_iload_n S.1 S.2.1 dX8_drop_21 rfl (lv_at hl 3 rfl) ?_
      obtain ⟨r6, hcr6, hm⟩ := bd_ok hm
      refine gC_i C (gRV (k := 0) (ci := 7) (r := (RX8, TX8, 34)) (As := [.int x1, .long r5, .int x3]) (rest := []) 3 S C (c_X8_at l D cy ad M x1 r5 x3 r6 hcr6) gX8_drop_X8_at rfl (by decide +kernel) (by decide) shR_0 rfl rfl rfl hl.1 rfl (Nat.le_of_ble_eq_true rfl) dX8_drop_22) (fun H locs C => ?_)
      refine lv_goto (tgt := 29) S.1 S.2.1 dX8_drop_25 (by decide) ?_
      exact wX8_drop_29 S hr hlk M _ _ C x1 r6 ls (lv_sub hl [0, 1] rfl) hm
def mX8_copy_30 : Nat → gMem → Int32 → Int32 → Int32 → Option (Int32 × gMem)
  | 0, _, _, _, _ => none
  | n + 1, M, x1, x2, x3 => ck (inb x1 6) <| if (M.1 1 x1.toNatClampNeg) ≤ x3 then (ck (inb x2 6) <| some ((M.1 1 x2.toNatClampNeg), M)) else (ck (inb (((64 : Int32) * x1) + x3) 384) <| ck (inb (((64 : Int32) * x2) + x3) 384) <| nmd (sJ M 2 (((64 : Int32) * x2) + x3).toNatClampNeg (M.2 2 (((64 : Int32) * x1) + x3).toNatClampNeg)) fun M6 => ck (inb (((64 : Int32) * x1) + x3) 384) <| ck (inb (((64 : Int32) * x2) + x3) 384) <| nmd (sI M6 3 (((64 : Int32) * x2) + x3).toNatClampNeg (M6.1 3 (((64 : Int32) * x1) + x3).toNatClampNeg)) fun M9 => ck (inb (((64 : Int32) * x1) + x3) 384) <| ck (inb (((64 : Int32) * x2) + x3) 384) <| nmd (sI M9 4 (((64 : Int32) * x2) + x3).toNatClampNeg (M9.1 4 (((64 : Int32) * x1) + x3).toNatClampNeg)) fun M12 => nmd (x3 + (1 : Int32)) fun y13 => mX8_copy_30 n M12 x1 x2 y13)
def mX8_copy (M : gMem) (x1 : Int32) (x2 : Int32) : Option (Int32 × gMem) := (mX8_isBook x1).bind fun r1 => if r1 = 0 then (some ((-1 : Int32), M)) else ((mX8_isBook x2).bind fun r3 => if r3 = 0 then (some ((-1 : Int32), M)) else (ck (inb x1 6) <| ck (inb x2 6) <| nmd (sI M 1 x2.toNatClampNeg (M.1 1 x1.toNatClampNeg)) fun M7 => mX8_copy_30 FU M7 x1 x2 (0 : Int32)))
set_option maxHeartbeats 4000000 in
set_option maxRecDepth 100000 in
theorem wX8_copy_30 {p : Program} {l : Launch} {e : Env} {s : State} {m : MethodId} {args : Array Value} {below : List Frame} {meth : Method} {c : Code} {D : va_G} {cy : gCy} {ad : Nat → Nat} {r0 : (Int32 × gMem)} (S : CallFix p m c cX8_copy 4 s args wsX8_copy RX8) (hr : meth.sig.returnType = (some .int)) (hlk : meth.locks = false) : ∀ (n : Nat), ∀ (M : gMem) (H : Heap) (locs : List Loc), gW shR D cy ad s s.heap M H locs → ∀ (x1 : Int32) (x2 : Int32) (x3 : Int32), ∀ (ls : Array Slot), lv_has ls 4 [(0, .ref (ad 0)), (1, .int x1), (2, .int x2), (3, .int x3)] → mX8_copy_30 n M x1 x2 x3 = some r0 → W p l e (gR 2 42) s m args below meth c H locs 0 0 (MQ below (gQi shR D cy ad r0.1 r0.2) args s 0 0 (gA shR ad)) (F0 m 30 ls []) := by
  intro n
  induction n with
  | zero => intro M H locs C x1 x2 x3 ls hl hm; exact absurd hm (by simp [mX8_copy_30])
  | succ n ih =>
    intro M H locs C x1 x2 x3 ls hl hm
    rw [mX8_copy_30] at hm
    refine lv_iload_n S.1 S.2.1 dX8_copy_30 rfl (lv_at hl 3 rfl) ?_
    refine lv_aload_n S.1 S.2.1 dX8_copy_31 rfl (lv_at hl 0 rfl) ?_
    refine g_get (k := 0) (ci := 7) (f := 0) (v := .ref (ad 1))  S C kiX8_copy_X8 kfX8_copy_7 rfl (by decide) shR_0 rfl rfl dX8_copy_32 ?_
    refine lv_iload_n S.1 S.2.1 dX8_copy_35 rfl (lv_at hl 1 rfl) ?_
    obtain ⟨h1, hm⟩ := ck_ok hm
    refine g_iald S C (k := 1) shR_1 h1 dX8_copy_36 ?_
    refine lv_icmp_ge (tgt := 112) S.1 S.2.1 dX8_copy_37 (by decide) (fun c2 => ?_) (fun c2 => ?_)
    · rw [if_pos c2] at hm
      refine lv_aload_n S.1 S.2.1 dX8_copy_112 rfl (lv_at hl 0 rfl) ?_
      refine g_get (k := 0) (ci := 7) (f := 0) (v := .ref (ad 1))  S C kiX8_copy_X8 kfX8_copy_7 rfl (by decide) shR_0 rfl rfl dX8_copy_113 ?_
      refine lv_iload_n S.1 S.2.1 dX8_copy_116 rfl (lv_at hl 2 rfl) ?_
      obtain ⟨h3, hm⟩ := ck_ok hm
      refine g_iald S C (k := 1) shR_1 h3 dX8_copy_117 ?_
      exact gReti S hr hlk C (pr1 hm) (pr2 hm) dX8_copy_118
    · rw [if_neg c2] at hm
      refine lv_aload_n S.1 S.2.1 dX8_copy_40 rfl (lv_at hl 0 rfl) ?_
      refine g_get (k := 0) (ci := 7) (f := 1) (v := .ref (ad 2))  S C kiX8_copy_X8 kfX8_copy_13 rfl (by decide) shR_0 rfl rfl dX8_copy_41 ?_
      refine lv_bipush (v := (64 : Int32)) S.1 S.2.1 dX8_copy_44 (by decide) ?_
      refine lv_iload_n S.1 S.2.1 dX8_copy_46 rfl (lv_at hl 2 rfl) ?_
      refine lv_imul S.1 S.2.1 dX8_copy_47 ?_
      refine lv_iload_n S.1 S.2.1 dX8_copy_48 rfl (lv_at hl 3 rfl) ?_
      refine lv_iadd S.1 S.2.1 dX8_copy_49 ?_
      refine lv_aload_n S.1 S.2.1 dX8_copy_50 rfl (lv_at hl 0 rfl) ?_
      refine g_get (k := 0) (ci := 7) (f := 1) (v := .ref (ad 2))  S C kiX8_copy_X8 kfX8_copy_13 rfl (by decide) shR_0 rfl rfl dX8_copy_51 ?_
      refine lv_bipush (v := (64 : Int32)) S.1 S.2.1 dX8_copy_54 (by decide) ?_
      refine lv_iload_n S.1 S.2.1 dX8_copy_56 rfl (lv_at hl 1 rfl) ?_
      refine lv_imul S.1 S.2.1 dX8_copy_57 ?_
      refine lv_iload_n S.1 S.2.1 dX8_copy_58 rfl (lv_at hl 3 rfl) ?_
      refine lv_iadd S.1 S.2.1 dX8_copy_59 ?_
      obtain ⟨h4, hm⟩ := ck_ok hm
      refine g_lald S C (k := 2) shR_2 h4 dX8_copy_60 ?_
      obtain ⟨h5, hm⟩ := ck_ok hm
      obtain ⟨M6, eM6, hm⟩ := nmd_ok hm
      refine g_last S C (k := 2) shR_2 h5 dX8_copy_61 (fun H locs C => ?_)
      rw [← eM6] at C
      refine lv_aload_n S.1 S.2.1 dX8_copy_62 rfl (lv_at hl 0 rfl) ?_
      refine g_get (k := 0) (ci := 7) (f := 2) (v := .ref (ad 3))  S C kiX8_copy_X8 kfX8_copy_17 rfl (by decide) shR_0 rfl rfl dX8_copy_63 ?_
      refine lv_bipush (v := (64 : Int32)) S.1 S.2.1 dX8_copy_66 (by decide) ?_
      refine lv_iload_n S.1 S.2.1 dX8_copy_68 rfl (lv_at hl 2 rfl) ?_
      refine lv_imul S.1 S.2.1 dX8_copy_69 ?_
      refine lv_iload_n S.1 S.2.1 dX8_copy_70 rfl (lv_at hl 3 rfl) ?_
      refine lv_iadd S.1 S.2.1 dX8_copy_71 ?_
      refine lv_aload_n S.1 S.2.1 dX8_copy_72 rfl (lv_at hl 0 rfl) ?_
      refine g_get (k := 0) (ci := 7) (f := 2) (v := .ref (ad 3))  S C kiX8_copy_X8 kfX8_copy_17 rfl (by decide) shR_0 rfl rfl dX8_copy_73 ?_
      refine lv_bipush (v := (64 : Int32)) S.1 S.2.1 dX8_copy_76 (by decide) ?_
      refine lv_iload_n S.1 S.2.1 dX8_copy_78 rfl (lv_at hl 1 rfl) ?_
      refine lv_imul S.1 S.2.1 dX8_copy_79 ?_
      refine lv_iload_n S.1 S.2.1 dX8_copy_80 rfl (lv_at hl 3 rfl) ?_
      refine lv_iadd S.1 S.2.1 dX8_copy_81 ?_
      obtain ⟨h7, hm⟩ := ck_ok hm
      refine g_iald S C (k := 3) shR_3 h7 dX8_copy_82 ?_
      obtain ⟨h8, hm⟩ := ck_ok hm
      obtain ⟨M9, eM9, hm⟩ := nmd_ok hm
      refine g_iast S C (k := 3) shR_3 h8 dX8_copy_83 (fun H locs C => ?_)
      rw [← eM9] at C
      refine lv_aload_n S.1 S.2.1 dX8_copy_84 rfl (lv_at hl 0 rfl) ?_
      refine g_get (k := 0) (ci := 7) (f := 3) (v := .ref (ad 4))  S C kiX8_copy_X8 kfX8_copy_20 rfl (by decide) shR_0 rfl rfl dX8_copy_85 ?_
      refine lv_bipush (v := (64 : Int32)) S.1 S.2.1 dX8_copy_88 (by decide) ?_
      refine lv_iload_n S.1 S.2.1 dX8_copy_90 rfl (lv_at hl 2 rfl) ?_
      refine lv_imul S.1 S.2.1 dX8_copy_91 ?_
      refine lv_iload_n S.1 S.2.1 dX8_copy_92 rfl (lv_at hl 3 rfl) ?_
      refine lv_iadd S.1 S.2.1 dX8_copy_93 ?_
      refine lv_aload_n S.1 S.2.1 dX8_copy_94 rfl (lv_at hl 0 rfl) ?_
      refine g_get (k := 0) (ci := 7) (f := 3) (v := .ref (ad 4))  S C kiX8_copy_X8 kfX8_copy_20 rfl (by decide) shR_0 rfl rfl dX8_copy_95 ?_
      refine lv_bipush (v := (64 : Int32)) S.1 S.2.1 dX8_copy_98 (by decide) ?_
      refine lv_iload_n S.1 S.2.1 dX8_copy_100 rfl (lv_at hl 1 rfl) ?_
      refine lv_imul S.1 S.2.1 dX8_copy_101 ?_
      refine lv_iload_n S.1 S.2.1 dX8_copy_102 rfl (lv_at hl 3 rfl) ?_
      refine lv_iadd S.1 S.2.1 dX8_copy_103 ?_
      obtain ⟨h10, hm⟩ := ck_ok hm
      refine g_iald S C (k := 4) shR_4 h10 dX8_copy_104 ?_
      obtain ⟨h11, hm⟩ := ck_ok hm
      obtain ⟨M12, eM12, hm⟩ := nmd_ok hm
      refine g_iast S C (k := 4) shR_4 h11 dX8_copy_105 (fun H locs C => ?_)
      rw [← eM12] at C
      obtain ⟨y13, ey13, hm⟩ := nmd_ok hm
      refine lv_iinc (v := y13) (lv' := [(3, .int y13), (0, .ref (ad 0)), (1, .int x1), (2, .int x2)]) S.1 S.2.1 dX8_copy_106 hl (k := 3) rfl (by rw [ey13]; rfl) (by decide) rfl (fun ls hl => ?_)
      refine lv_goto (tgt := 30) S.1 S.2.1 dX8_copy_109 (by decide) ?_
      exact ih M12 _ _ C x1 x2 y13 ls (lv_sub hl [1, 2, 3, 0] rfl) hm
set_option maxHeartbeats 4000000 in
set_option maxRecDepth 100000 in
theorem c_X8_copy (l : Launch) (D : va_G) (cy : gCy) (ad : Nat → Nat) (M : gMem) (x1 : Int32) (x2 : Int32) (r0 : (Int32 × gMem)) (hm : mX8_copy M x1 x2 = some r0) : Met l yX8_copy wsX8_copy (gR 2 42) (va_Pc [.ref (ad 0), .int x1, .int x2] (gP shR D cy ad M)) (gQi shR D cy ad r0.1 r0.2) 0 0 (gA shR ad) := by
  refine gEnter (cc := cX8_copy) (maxL := 4) (ret := (some .int)) (by decide) rfl (Nat.le_of_ble_eq_true rfl) ?_
  intro p e s m below meth c ls S hr hlk C hl
  have S : CallFix p m c cX8_copy 4 s _ wsX8_copy RX8 := S
  have hl : lv_has ls 4 [(0, .ref (ad 0)), (1, .int x1), (2, .int x2)] := hl
  rw [mX8_copy] at hm
  refine lv_iload_n S.1 S.2.1 dX8_copy_0 rfl (lv_at hl 1 rfl) ?_
  obtain ⟨r1, hcr1, hm⟩ := bd_ok hm
  refine gC_i C (gRS (As := [.int x1]) (rest := []) 1 S C (c_X8_isBook l D cy ad M x1 r1 hcr1) gX8_copy_X8_isBook rfl (by decide +kernel) (by decide) rfl hl.1 rfl (Nat.le_of_ble_eq_true rfl) dX8_copy_1) (fun H locs C => ?_)
  refine lv_if_eq (tgt := 14) S.1 S.2.1 dX8_copy_4 (by decide) (fun c2 => ?_) (fun c2 => ?_)
  · rw [if_pos c2] at hm
    refine lv_iconst (v := (-1 : Int32)) S.1 S.2.1 dX8_copy_14 (by decide) ?_
    exact gReti S hr hlk C (pr1 hm) (pr2 hm) dX8_copy_15
  · rw [if_neg c2] at hm
    refine lv_iload_n S.1 S.2.1 dX8_copy_7 rfl (lv_at hl 2 rfl) ?_
    obtain ⟨r3, hcr3, hm⟩ := bd_ok hm
    refine gC_i C (gRS (As := [.int x2]) (rest := []) 1 S C (c_X8_isBook l D cy ad M x2 r3 hcr3) gX8_copy_X8_isBook rfl (by decide +kernel) (by decide) rfl hl.1 rfl (Nat.le_of_ble_eq_true rfl) dX8_copy_8) (fun H locs C => ?_)
    refine lv_if_ne (tgt := 16) S.1 S.2.1 dX8_copy_11 (by decide) (fun c4 => ?_) (fun c4 => ?_)
    · rw [if_neg c4] at hm
      refine lv_aload_n S.1 S.2.1 dX8_copy_16 rfl (lv_at hl 0 rfl) ?_
      refine g_get (k := 0) (ci := 7) (f := 0) (v := .ref (ad 1))  S C kiX8_copy_X8 kfX8_copy_7 rfl (by decide) shR_0 rfl rfl dX8_copy_17 ?_
      refine lv_iload_n S.1 S.2.1 dX8_copy_20 rfl (lv_at hl 2 rfl) ?_
      refine lv_aload_n S.1 S.2.1 dX8_copy_21 rfl (lv_at hl 0 rfl) ?_
      refine g_get (k := 0) (ci := 7) (f := 0) (v := .ref (ad 1))  S C kiX8_copy_X8 kfX8_copy_7 rfl (by decide) shR_0 rfl rfl dX8_copy_22 ?_
      refine lv_iload_n S.1 S.2.1 dX8_copy_25 rfl (lv_at hl 1 rfl) ?_
      obtain ⟨h5, hm⟩ := ck_ok hm
      refine g_iald S C (k := 1) shR_1 h5 dX8_copy_26 ?_
      obtain ⟨h6, hm⟩ := ck_ok hm
      obtain ⟨M7, eM7, hm⟩ := nmd_ok hm
      refine g_iast S C (k := 1) shR_1 h6 dX8_copy_27 (fun H locs C => ?_)
      rw [← eM7] at C
      refine lv_iconst (v := (0 : Int32)) S.1 S.2.1 dX8_copy_28 (by decide) ?_
      refine lv_istore_n (lv' := [(3, .int (0 : Int32)), (0, .ref (ad 0)), (1, .int x1), (2, .int x2)]) S.1 S.2.1 dX8_copy_29 rfl hl (by decide) rfl (fun ls hl => ?_)
      exact wX8_copy_30 S hr hlk FU M7 _ _ C x1 x2 (0 : Int32) ls (lv_sub hl [1, 2, 3, 0] rfl) hm
    · rw [if_pos c4] at hm
      refine lv_iconst (v := (-1 : Int32)) S.1 S.2.1 dX8_copy_14 (by decide) ?_
      exact gReti S hr hlk C (pr1 hm) (pr2 hm) dX8_copy_15
def mX8_count (M : gMem) (x1 : Int32) : Option Int32 := (mX8_isBook x1).bind fun r1 => if r1 = 0 then (some (-1 : Int32)) else (ck (inb x1 6) <| some (M.1 1 x1.toNatClampNeg))
set_option maxHeartbeats 4000000 in
set_option maxRecDepth 100000 in
theorem c_X8_count (l : Launch) (D : va_G) (cy : gCy) (ad : Nat → Nat) (M : gMem) (x1 : Int32) (r0 : Int32) (hm : mX8_count M x1 = some r0) : Met l yX8_count wsX8_count (gR 2 42) (va_Pc [.ref (ad 0), .int x1] (gP shR D cy ad M)) (gQi shR D cy ad r0 M) 0 0 (gA shR ad) := by
  refine gEnter (cc := cX8_count) (maxL := 2) (ret := (some .int)) (by decide) rfl (Nat.le_of_ble_eq_true rfl) ?_
  intro p e s m below meth c ls S hr hlk C hl
  have S : CallFix p m c cX8_count 2 s _ wsX8_count RX8 := S
  have hl : lv_has ls 2 [(0, .ref (ad 0)), (1, .int x1)] := hl
  rw [mX8_count] at hm
  refine lv_iload_n S.1 S.2.1 dX8_count_0 rfl (lv_at hl 1 rfl) ?_
  obtain ⟨r1, hcr1, hm⟩ := bd_ok hm
  refine gC_i C (gRS (As := [.int x1]) (rest := []) 1 S C (c_X8_isBook l D cy ad M x1 r1 hcr1) gX8_count_X8_isBook rfl (by decide +kernel) (by decide) rfl hl.1 rfl (Nat.le_of_ble_eq_true rfl) dX8_count_1) (fun H locs C => ?_)
  refine lv_if_eq (tgt := 16) S.1 S.2.1 dX8_count_4 (by decide) (fun c2 => ?_) (fun c2 => ?_)
  · rw [if_pos c2] at hm
    refine lv_iconst (v := (-1 : Int32)) S.1 S.2.1 dX8_count_16 (by decide) ?_
    exact gReti S hr hlk C (Option.some.inj hm) rfl dX8_count_17
  · rw [if_neg c2] at hm
    refine lv_aload_n S.1 S.2.1 dX8_count_7 rfl (lv_at hl 0 rfl) ?_
    refine g_get (k := 0) (ci := 7) (f := 0) (v := .ref (ad 1))  S C kiX8_count_X8 kfX8_count_7 rfl (by decide) shR_0 rfl rfl dX8_count_8 ?_
    refine lv_iload_n S.1 S.2.1 dX8_count_11 rfl (lv_at hl 1 rfl) ?_
    obtain ⟨h3, hm⟩ := ck_ok hm
    refine g_iald S C (k := 1) shR_1 h3 dX8_count_12 ?_
    refine lv_goto (tgt := 17) S.1 S.2.1 dX8_count_13 (by decide) ?_
    exact gReti S hr hlk C (Option.some.inj hm) rfl dX8_count_17
def mX8_line (M : gMem) (x1 : Int32) (x2 : Int32) (x3 : Int32) : Option Int64 := (mX8_isBook x1).bind fun r1 => if r1 = 0 then (some (-1 : Int64)) else (ck (inb x1 6) <| (mX8_lies x2 (0 : Int32) ((M.1 1 x1.toNatClampNeg) - (1 : Int32))).bind fun r4 => if r4 = 0 then (some (-1 : Int64)) else (nmd (((64 : Int32) * x1) + x2) fun y6 => if x3 = 0 then (ck (inb y6 384) <| some (M.2 2 y6.toNatClampNeg)) else (if x3 = (1 : Int32) then (ck (inb y6 384) <| some ((M.1 3 y6.toNatClampNeg).toInt64)) else (if x3 = (2 : Int32) then (ck (inb y6 384) <| some ((M.1 4 y6.toNatClampNeg).toInt64)) else (some (-1 : Int64))))))
set_option maxHeartbeats 4000000 in
set_option maxRecDepth 100000 in
theorem c_X8_line (l : Launch) (D : va_G) (cy : gCy) (ad : Nat → Nat) (M : gMem) (x1 : Int32) (x2 : Int32) (x3 : Int32) (r0 : Int64) (hm : mX8_line M x1 x2 x3 = some r0) : Met l yX8_line wsX8_line (gR 2 42) (va_Pc [.ref (ad 0), .int x1, .int x2, .int x3] (gP shR D cy ad M)) (gQl shR D cy ad r0 M) 0 0 (gA shR ad) := by
  refine gEnter (cc := cX8_line) (maxL := 5) (ret := (some .long)) (by decide) rfl (Nat.le_of_ble_eq_true rfl) ?_
  intro p e s m below meth c ls S hr hlk C hl
  have S : CallFix p m c cX8_line 5 s _ wsX8_line RX8 := S
  have hl : lv_has ls 5 [(0, .ref (ad 0)), (1, .int x1), (2, .int x2), (3, .int x3)] := hl
  rw [mX8_line] at hm
  refine lv_iload_n S.1 S.2.1 dX8_line_0 rfl (lv_at hl 1 rfl) ?_
  obtain ⟨r1, hcr1, hm⟩ := bd_ok hm
  refine gC_i C (gRS (As := [.int x1]) (rest := []) 1 S C (c_X8_isBook l D cy ad M x1 r1 hcr1) gX8_line_X8_isBook rfl (by decide +kernel) (by decide) rfl hl.1 rfl (Nat.le_of_ble_eq_true rfl) dX8_line_1) (fun H locs C => ?_)
  refine lv_if_eq (tgt := 23) S.1 S.2.1 dX8_line_4 (by decide) (fun c2 => ?_) (fun c2 => ?_)
  · rw [if_pos c2] at hm
    refine lv_ldc2 (v := (-1 : Int64)) S.1 S.2.1 S.2.2.2.1 (S.2.2.2.2 _ kcX8_line_124) dX8_line_23 ?_
    exact gRetl S hr hlk C (Option.some.inj hm) rfl dX8_line_26
  · rw [if_neg c2] at hm
    refine lv_iload_n S.1 S.2.1 dX8_line_7 rfl (lv_at hl 2 rfl) ?_
    refine lv_iconst (v := (0 : Int32)) S.1 S.2.1 dX8_line_8 (by decide) ?_
    refine lv_aload_n S.1 S.2.1 dX8_line_9 rfl (lv_at hl 0 rfl) ?_
    refine g_get (k := 0) (ci := 7) (f := 0) (v := .ref (ad 1))  S C kiX8_line_X8 kfX8_line_7 rfl (by decide) shR_0 rfl rfl dX8_line_10 ?_
    refine lv_iload_n S.1 S.2.1 dX8_line_13 rfl (lv_at hl 1 rfl) ?_
    obtain ⟨h3, hm⟩ := ck_ok hm
    refine g_iald S C (k := 1) shR_1 h3 dX8_line_14 ?_
    refine lv_iconst (v := (1 : Int32)) S.1 S.2.1 dX8_line_15 (by decide) ?_
    refine lv_isub S.1 S.2.1 dX8_line_16 ?_
    obtain ⟨r4, hcr4, hm⟩ := bd_ok hm
    refine gC_i C (gRS (As := [.int x2, .int (0 : Int32), .int ((M.1 1 x1.toNatClampNeg) - (1 : Int32))]) (rest := []) 3 S C (c_X8_lies l D cy ad M x2 (0 : Int32) ((M.1 1 x1.toNatClampNeg) - (1 : Int32)) r4 hcr4) gX8_line_X8_lies rfl (by decide +kernel) (by decide) rfl hl.1 rfl (Nat.le_of_ble_eq_true rfl) dX8_line_17) (fun H locs C => ?_)
    refine lv_if_ne (tgt := 27) S.1 S.2.1 dX8_line_20 (by decide) (fun c5 => ?_) (fun c5 => ?_)
    · rw [if_neg c5] at hm
      refine lv_bipush (v := (64 : Int32)) S.1 S.2.1 dX8_line_27 (by decide) ?_
      refine lv_iload_n S.1 S.2.1 dX8_line_29 rfl (lv_at hl 1 rfl) ?_
      refine lv_imul S.1 S.2.1 dX8_line_30 ?_
      refine lv_iload_n S.1 S.2.1 dX8_line_31 rfl (lv_at hl 2 rfl) ?_
      refine lv_iadd S.1 S.2.1 dX8_line_32 ?_
      obtain ⟨y6, ey6, hm⟩ := nmd_ok hm
      refine gNmI ey6 ?_
      refine lv_istore (lv' := [(4, .int y6), (0, .ref (ad 0)), (1, .int x1), (2, .int x2), (3, .int x3)]) S.1 S.2.1 dX8_line_33 hl (by decide) rfl (fun ls hl => ?_)
      refine lv_iload_n S.1 S.2.1 dX8_line_35 rfl (lv_at hl 4 rfl) ?_
      refine lv_if_ne (tgt := 49) S.1 S.2.1 dX8_line_36 (by decide) (fun c7 => ?_) (fun c7 => ?_)
      · rw [if_neg c7] at hm
        refine lv_iload_n S.1 S.2.1 dX8_line_49 rfl (lv_at hl 4 rfl) ?_
        refine lv_iconst (v := (1 : Int32)) S.1 S.2.1 dX8_line_50 (by decide) ?_
        refine lv_icmp_ne (tgt := 65) S.1 S.2.1 dX8_line_51 (by decide) (fun c8 => ?_) (fun c8 => ?_)
        · rw [if_neg c8] at hm
          refine lv_iload_n S.1 S.2.1 dX8_line_65 rfl (lv_at hl 4 rfl) ?_
          refine lv_iconst (v := (2 : Int32)) S.1 S.2.1 dX8_line_66 (by decide) ?_
          refine lv_icmp_ne (tgt := 81) S.1 S.2.1 dX8_line_67 (by decide) (fun c9 => ?_) (fun c9 => ?_)
          · rw [if_neg c9] at hm
            refine lv_ldc2 (v := (-1 : Int64)) S.1 S.2.1 S.2.2.2.1 (S.2.2.2.2 _ kcX8_line_124) dX8_line_81 ?_
            exact gRetl S hr hlk C (Option.some.inj hm) rfl dX8_line_84
          · rw [if_pos c9] at hm
            refine lv_aload_n S.1 S.2.1 dX8_line_70 rfl (lv_at hl 1 rfl) ?_
            refine g_get (k := 0) (ci := 7) (f := 3) (v := .ref (ad 4))  S C kiX8_line_X8 kfX8_line_20 rfl (by decide) shR_0 rfl rfl dX8_line_71 ?_
            refine lv_iload S.1 S.2.1 dX8_line_74 (lv_at hl 0 rfl) ?_
            obtain ⟨h10, hm⟩ := ck_ok hm
            refine g_iald S C (k := 4) shR_4 h10 dX8_line_76 ?_
            refine lv_i2l (v := (M.1 4 y6.toNatClampNeg).toInt64) S.1 S.2.1 dX8_line_77 rfl ?_
            refine lv_goto (tgt := 84) S.1 S.2.1 dX8_line_78 (by decide) ?_
            exact gRetl S hr hlk C (Option.some.inj hm) rfl dX8_line_84
        · rw [if_pos c8] at hm
          refine lv_aload_n S.1 S.2.1 dX8_line_54 rfl (lv_at hl 1 rfl) ?_
          refine g_get (k := 0) (ci := 7) (f := 2) (v := .ref (ad 3))  S C kiX8_line_X8 kfX8_line_17 rfl (by decide) shR_0 rfl rfl dX8_line_55 ?_
          refine lv_iload S.1 S.2.1 dX8_line_58 (lv_at hl 0 rfl) ?_
          obtain ⟨h11, hm⟩ := ck_ok hm
          refine g_iald S C (k := 3) shR_3 h11 dX8_line_60 ?_
          refine lv_i2l (v := (M.1 3 y6.toNatClampNeg).toInt64) S.1 S.2.1 dX8_line_61 rfl ?_
          refine lv_goto (tgt := 84) S.1 S.2.1 dX8_line_62 (by decide) ?_
          exact gRetl S hr hlk C (Option.some.inj hm) rfl dX8_line_84
      · rw [if_pos c7] at hm
        refine lv_aload_n S.1 S.2.1 dX8_line_39 rfl (lv_at hl 1 rfl) ?_
        refine g_get (k := 0) (ci := 7) (f := 1) (v := .ref (ad 2))  S C kiX8_line_X8 kfX8_line_13 rfl (by decide) shR_0 rfl rfl dX8_line_40 ?_
        refine lv_iload S.1 S.2.1 dX8_line_43 (lv_at hl 0 rfl) ?_
        obtain ⟨h12, hm⟩ := ck_ok hm
        refine g_lald S C (k := 2) shR_2 h12 dX8_line_45 ?_
        refine lv_goto (tgt := 84) S.1 S.2.1 dX8_line_46 (by decide) ?_
        exact gRetl S hr hlk C (Option.some.inj hm) rfl dX8_line_84
    · rw [if_pos c5] at hm
      refine lv_ldc2 (v := (-1 : Int64)) S.1 S.2.1 S.2.2.2.1 (S.2.2.2.2 _ kcX8_line_124) dX8_line_23 ?_
      exact gRetl S hr hlk C (Option.some.inj hm) rfl dX8_line_26
def mX8_best_6 : Nat → gMem → Int32 → Int64 → Int32 → Int32 → Option Int32
  | 0, _, _, _, _, _ => none
  | n + 1, M, x1, x2, x4, x5 => ck (inb x1 6) <| if (M.1 1 x1.toNatClampNeg) ≤ x5 then (some x4) else (ck (inb (((64 : Int32) * x1) + x5) 384) <| ck (inb (((64 : Int32) * x1) + x5) 384) <| (mX8_begins x2 (M.2 2 (((64 : Int32) * x1) + x5).toNatClampNeg) (M.1 3 (((64 : Int32) * x1) + x5).toNatClampNeg)).bind fun r5 => if r5 = 0 then (nmd (x5 + (1 : Int32)) fun y14 => mX8_best_6 n M x1 x2 x4 y14) else (if x4 = (-1 : Int32) then (nmd (x5 + (1 : Int32)) fun y8 => mX8_best_6 n M x1 x2 x5 y8) else (ck (inb (((64 : Int32) * x1) + x5) 384) <| ck (inb (((64 : Int32) * x1) + x4) 384) <| if (M.1 3 (((64 : Int32) * x1) + x5).toNatClampNeg) ≤ (M.1 3 (((64 : Int32) * x1) + x4).toNatClampNeg) then (nmd (x5 + (1 : Int32)) fun y12 => mX8_best_6 n M x1 x2 x4 y12) else (nmd (x5 + (1 : Int32)) fun y13 => mX8_best_6 n M x1 x2 x5 y13))))
def mX8_best (M : gMem) (x1 : Int32) (x2 : Int64) : Option Int32 := mX8_best_6 FU M x1 x2 (-1 : Int32) (0 : Int32)
set_option maxHeartbeats 4000000 in
set_option maxRecDepth 100000 in
theorem wX8_best_6 {p : Program} {l : Launch} {e : Env} {s : State} {m : MethodId} {args : Array Value} {below : List Frame} {meth : Method} {c : Code} {D : va_G} {cy : gCy} {ad : Nat → Nat} {M : gMem} {r0 : Int32} (S : CallFix p m c cX8_best 6 s args wsX8_best RX8) (hr : meth.sig.returnType = (some .int)) (hlk : meth.locks = false) : ∀ (n : Nat), ∀ (H : Heap) (locs : List Loc), gW shR D cy ad s s.heap M H locs → ∀ (x1 : Int32) (x2 : Int64) (x4 : Int32) (x5 : Int32), ∀ (ls : Array Slot), lv_has ls 6 [(0, .ref (ad 0)), (1, .int x1), (2, .long x2), (4, .int x4), (5, .int x5)] → mX8_best_6 n M x1 x2 x4 x5 = some r0 → W p l e (gR 2 44) s m args below meth c H locs 0 0 (MQ below (gQi shR D cy ad r0 M) args s 0 0 (gA shR ad)) (F0 m 6 ls []) := by
  intro n
  induction n with
  | zero => intro H locs C x1 x2 x4 x5 ls hl hm; exact absurd hm (by simp [mX8_best_6])
  | succ n ih =>
    intro H locs C x1 x2 x4 x5 ls hl hm
    rw [mX8_best_6] at hm
    refine lv_iload S.1 S.2.1 dX8_best_6 (lv_at hl 4 rfl) ?_
    refine lv_aload_n S.1 S.2.1 dX8_best_8 rfl (lv_at hl 0 rfl) ?_
    refine g_get (k := 0) (ci := 7) (f := 0) (v := .ref (ad 1))  S C kiX8_best_X8 kfX8_best_7 rfl (by decide) shR_0 rfl rfl dX8_best_9 ?_
    refine lv_iload_n S.1 S.2.1 dX8_best_12 rfl (lv_at hl 1 rfl) ?_
    obtain ⟨h1, hm⟩ := ck_ok hm
    refine g_iald S C (k := 1) shR_1 h1 dX8_best_13 ?_
    refine lv_icmp_ge (tgt := 94) S.1 S.2.1 dX8_best_14 (by decide) (fun c2 => ?_) (fun c2 => ?_)
    · rw [if_pos c2] at hm
      refine lv_iload S.1 S.2.1 dX8_best_94 (lv_at hl 3 rfl) ?_
      exact gReti S hr hlk C (Option.some.inj hm) rfl dX8_best_96
    · rw [if_neg c2] at hm
      refine lv_lload_n S.1 S.2.1 dX8_best_17 rfl (lv_at hl 2 rfl) ?_
      refine lv_aload_n S.1 S.2.1 dX8_best_18 rfl (lv_at hl 0 rfl) ?_
      refine g_get (k := 0) (ci := 7) (f := 1) (v := .ref (ad 2))  S C kiX8_best_X8 kfX8_best_13 rfl (by decide) shR_0 rfl rfl dX8_best_19 ?_
      refine lv_bipush (v := (64 : Int32)) S.1 S.2.1 dX8_best_22 (by decide) ?_
      refine lv_iload_n S.1 S.2.1 dX8_best_24 rfl (lv_at hl 1 rfl) ?_
      refine lv_imul S.1 S.2.1 dX8_best_25 ?_
      refine lv_iload S.1 S.2.1 dX8_best_26 (lv_at hl 4 rfl) ?_
      refine lv_iadd S.1 S.2.1 dX8_best_28 ?_
      obtain ⟨h3, hm⟩ := ck_ok hm
      refine g_lald S C (k := 2) shR_2 h3 dX8_best_29 ?_
      refine lv_aload_n S.1 S.2.1 dX8_best_30 rfl (lv_at hl 0 rfl) ?_
      refine g_get (k := 0) (ci := 7) (f := 2) (v := .ref (ad 3))  S C kiX8_best_X8 kfX8_best_17 rfl (by decide) shR_0 rfl rfl dX8_best_31 ?_
      refine lv_bipush (v := (64 : Int32)) S.1 S.2.1 dX8_best_34 (by decide) ?_
      refine lv_iload_n S.1 S.2.1 dX8_best_36 rfl (lv_at hl 1 rfl) ?_
      refine lv_imul S.1 S.2.1 dX8_best_37 ?_
      refine lv_iload S.1 S.2.1 dX8_best_38 (lv_at hl 4 rfl) ?_
      refine lv_iadd S.1 S.2.1 dX8_best_40 ?_
      obtain ⟨h4, hm⟩ := ck_ok hm
      refine g_iald S C (k := 3) shR_3 h4 dX8_best_41 ?_
      obtain ⟨r5, hcr5, hm⟩ := bd_ok hm
      refine gC_i C (gRS (As := [.long x2, .long (M.2 2 (((64 : Int32) * x1) + x5).toNatClampNeg), .int (M.1 3 (((64 : Int32) * x1) + x5).toNatClampNeg)]) (rest := []) 3 S C (c_X8_begins l D cy ad M x2 (M.2 2 (((64 : Int32) * x1) + x5).toNatClampNeg) (M.1 3 (((64 : Int32) * x1) + x5).toNatClampNeg) r5 hcr5) gX8_best_X8_begins rfl (by decide +kernel) (by decide) rfl hl.1 rfl (Nat.le_of_ble_eq_true rfl) dX8_best_42) (fun H locs C => ?_)
      refine lv_if_ne (tgt := 51) S.1 S.2.1 dX8_best_45 (by decide) (fun c6 => ?_) (fun c6 => ?_)
      · rw [if_neg c6] at hm
        refine lv_iload S.1 S.2.1 dX8_best_51 (lv_at hl 3 rfl) ?_
        refine lv_iconst (v := (-1 : Int32)) S.1 S.2.1 dX8_best_53 (by decide) ?_
        refine lv_icmp_eq (tgt := 84) S.1 S.2.1 dX8_best_54 (by decide) (fun c7 => ?_) (fun c7 => ?_)
        · rw [if_pos c7] at hm
          refine lv_iload S.1 S.2.1 dX8_best_84 (lv_at hl 4 rfl) ?_
          refine lv_istore (lv' := [(4, .int x5), (0, .ref (ad 0)), (1, .int x1), (2, .long x2), (5, .int x5)]) S.1 S.2.1 dX8_best_86 hl (by decide) rfl (fun ls hl => ?_)
          obtain ⟨y8, ey8, hm⟩ := nmd_ok hm
          refine lv_iinc (v := y8) (lv' := [(5, .int y8), (4, .int x5), (0, .ref (ad 0)), (1, .int x1), (2, .long x2)]) S.1 S.2.1 dX8_best_88 hl (k := 4) rfl (by rw [ey8]; rfl) (by decide) rfl (fun ls hl => ?_)
          refine lv_goto (tgt := 6) S.1 S.2.1 dX8_best_91 (by decide) ?_
          exact ih _ _ C x1 x2 x5 y8 ls (lv_sub hl [2, 3, 4, 1, 0] rfl) hm
        · rw [if_neg c7] at hm
          refine lv_aload_n S.1 S.2.1 dX8_best_57 rfl (lv_at hl 0 rfl) ?_
          refine g_get (k := 0) (ci := 7) (f := 2) (v := .ref (ad 3))  S C kiX8_best_X8 kfX8_best_17 rfl (by decide) shR_0 rfl rfl dX8_best_58 ?_
          refine lv_bipush (v := (64 : Int32)) S.1 S.2.1 dX8_best_61 (by decide) ?_
          refine lv_iload_n S.1 S.2.1 dX8_best_63 rfl (lv_at hl 1 rfl) ?_
          refine lv_imul S.1 S.2.1 dX8_best_64 ?_
          refine lv_iload S.1 S.2.1 dX8_best_65 (lv_at hl 4 rfl) ?_
          refine lv_iadd S.1 S.2.1 dX8_best_67 ?_
          obtain ⟨h9, hm⟩ := ck_ok hm
          refine g_iald S C (k := 3) shR_3 h9 dX8_best_68 ?_
          refine lv_aload_n S.1 S.2.1 dX8_best_69 rfl (lv_at hl 0 rfl) ?_
          refine g_get (k := 0) (ci := 7) (f := 2) (v := .ref (ad 3))  S C kiX8_best_X8 kfX8_best_17 rfl (by decide) shR_0 rfl rfl dX8_best_70 ?_
          refine lv_bipush (v := (64 : Int32)) S.1 S.2.1 dX8_best_73 (by decide) ?_
          refine lv_iload_n S.1 S.2.1 dX8_best_75 rfl (lv_at hl 1 rfl) ?_
          refine lv_imul S.1 S.2.1 dX8_best_76 ?_
          refine lv_iload S.1 S.2.1 dX8_best_77 (lv_at hl 3 rfl) ?_
          refine lv_iadd S.1 S.2.1 dX8_best_79 ?_
          obtain ⟨h10, hm⟩ := ck_ok hm
          refine g_iald S C (k := 3) shR_3 h10 dX8_best_80 ?_
          refine lv_icmp_le (tgt := 88) S.1 S.2.1 dX8_best_81 (by decide) (fun c11 => ?_) (fun c11 => ?_)
          · rw [if_pos c11] at hm
            obtain ⟨y12, ey12, hm⟩ := nmd_ok hm
            refine lv_iinc (v := y12) (lv' := [(5, .int y12), (0, .ref (ad 0)), (1, .int x1), (2, .long x2), (4, .int x4)]) S.1 S.2.1 dX8_best_88 hl (k := 4) rfl (by rw [ey12]; rfl) (by decide) rfl (fun ls hl => ?_)
            refine lv_goto (tgt := 6) S.1 S.2.1 dX8_best_91 (by decide) ?_
            exact ih _ _ C x1 x2 x4 y12 ls (lv_sub hl [1, 2, 3, 4, 0] rfl) hm
          · rw [if_neg c11] at hm
            refine lv_iload S.1 S.2.1 dX8_best_84 (lv_at hl 4 rfl) ?_
            refine lv_istore (lv' := [(4, .int x5), (0, .ref (ad 0)), (1, .int x1), (2, .long x2), (5, .int x5)]) S.1 S.2.1 dX8_best_86 hl (by decide) rfl (fun ls hl => ?_)
            obtain ⟨y13, ey13, hm⟩ := nmd_ok hm
            refine lv_iinc (v := y13) (lv' := [(5, .int y13), (4, .int x5), (0, .ref (ad 0)), (1, .int x1), (2, .long x2)]) S.1 S.2.1 dX8_best_88 hl (k := 4) rfl (by rw [ey13]; rfl) (by decide) rfl (fun ls hl => ?_)
            refine lv_goto (tgt := 6) S.1 S.2.1 dX8_best_91 (by decide) ?_
            exact ih _ _ C x1 x2 x5 y13 ls (lv_sub hl [2, 3, 4, 1, 0] rfl) hm
      · rw [if_pos c6] at hm
        refine lv_goto (tgt := 88) S.1 S.2.1 dX8_best_48 (by decide) ?_
        obtain ⟨y14, ey14, hm⟩ := nmd_ok hm
        refine lv_iinc (v := y14) (lv' := [(5, .int y14), (0, .ref (ad 0)), (1, .int x1), (2, .long x2), (4, .int x4)]) S.1 S.2.1 dX8_best_88 hl (k := 4) rfl (by rw [ey14]; rfl) (by decide) rfl (fun ls hl => ?_)
        refine lv_goto (tgt := 6) S.1 S.2.1 dX8_best_91 (by decide) ?_
        exact ih _ _ C x1 x2 x4 y14 ls (lv_sub hl [1, 2, 3, 4, 0] rfl) hm
set_option maxHeartbeats 4000000 in
set_option maxRecDepth 100000 in
theorem c_X8_best (l : Launch) (D : va_G) (cy : gCy) (ad : Nat → Nat) (M : gMem) (x1 : Int32) (x2 : Int64) (r0 : Int32) (hm : mX8_best M x1 x2 = some r0) : Met l yX8_best wsX8_best (gR 2 44) (va_Pc [.ref (ad 0), .int x1, .long x2] (gP shR D cy ad M)) (gQi shR D cy ad r0 M) 0 0 (gA shR ad) := by
  refine gEnter (cc := cX8_best) (maxL := 6) (ret := (some .int)) (by decide) rfl (Nat.le_of_ble_eq_true rfl) ?_
  intro p e s m below meth c ls S hr hlk C hl
  have S : CallFix p m c cX8_best 6 s _ wsX8_best RX8 := S
  have hl : lv_has ls 6 [(0, .ref (ad 0)), (1, .int x1), (2, .long x2)] := hl
  rw [mX8_best] at hm
  refine lv_iconst (v := (-1 : Int32)) S.1 S.2.1 dX8_best_0 (by decide) ?_
  refine lv_istore (lv' := [(4, .int (-1 : Int32)), (0, .ref (ad 0)), (1, .int x1), (2, .long x2)]) S.1 S.2.1 dX8_best_1 hl (by decide) rfl (fun ls hl => ?_)
  refine lv_iconst (v := (0 : Int32)) S.1 S.2.1 dX8_best_3 (by decide) ?_
  refine lv_istore (lv' := [(5, .int (0 : Int32)), (4, .int (-1 : Int32)), (0, .ref (ad 0)), (1, .int x1), (2, .long x2)]) S.1 S.2.1 dX8_best_4 hl (by decide) rfl (fun ls hl => ?_)
  exact wX8_best_6 S hr hlk FU _ _ C x1 x2 (-1 : Int32) (0 : Int32) ls (lv_sub hl [2, 3, 4, 1, 0] rfl) hm
def mX8_leads (M : gMem) (x1 : Int32) (x2 : Int64) : Option Int32 := (mX8_best M x1 x2).bind fun r1 => if r1 = (-1 : Int32) then (some (16 : Int32)) else (ck (inb (((64 : Int32) * x1) + r1) 384) <| some (M.1 4 (((64 : Int32) * x1) + r1).toNatClampNeg))
set_option maxHeartbeats 4000000 in
set_option maxRecDepth 100000 in
theorem c_X8_leads (l : Launch) (D : va_G) (cy : gCy) (ad : Nat → Nat) (M : gMem) (x1 : Int32) (x2 : Int64) (r0 : Int32) (hm : mX8_leads M x1 x2 = some r0) : Met l yX8_leads wsX8_leads (gR 3 69) (va_Pc [.ref (ad 0), .int x1, .long x2] (gP shR D cy ad M)) (gQi shR D cy ad r0 M) 0 0 (gA shR ad) := by
  refine gEnter (cc := cX8_leads) (maxL := 5) (ret := (some .int)) (by decide) rfl (Nat.le_of_ble_eq_true rfl) ?_
  intro p e s m below meth c ls S hr hlk C hl
  have S : CallFix p m c cX8_leads 5 s _ wsX8_leads RX8 := S
  have hl : lv_has ls 5 [(0, .ref (ad 0)), (1, .int x1), (2, .long x2)] := hl
  rw [mX8_leads] at hm
  refine lv_aload_n S.1 S.2.1 dX8_leads_0 rfl (lv_at hl 0 rfl) ?_
  refine lv_iload_n S.1 S.2.1 dX8_leads_1 rfl (lv_at hl 1 rfl) ?_
  refine lv_lload_n S.1 S.2.1 dX8_leads_2 rfl (lv_at hl 2 rfl) ?_
  obtain ⟨r1, hcr1, hm⟩ := bd_ok hm
  refine gC_i C (gRV (k := 0) (ci := 7) (r := (RX8, TX8, 34)) (As := [.int x1, .long x2]) (rest := []) 2 S C (c_X8_best l D cy ad M x1 x2 r1 hcr1) gX8_leads_X8_best rfl (by decide +kernel) (by decide) shR_0 rfl rfl rfl hl.1 rfl (Nat.le_of_ble_eq_true rfl) dX8_leads_3) (fun H locs C => ?_)
  refine lv_istore (lv' := [(4, .int r1), (0, .ref (ad 0)), (1, .int x1), (2, .long x2)]) S.1 S.2.1 dX8_leads_6 hl (by decide) rfl (fun ls hl => ?_)
  refine lv_iload S.1 S.2.1 dX8_leads_8 (lv_at hl 0 rfl) ?_
  refine lv_iconst (v := (-1 : Int32)) S.1 S.2.1 dX8_leads_10 (by decide) ?_
  refine lv_icmp_ne (tgt := 19) S.1 S.2.1 dX8_leads_11 (by decide) (fun c2 => ?_) (fun c2 => ?_)
  · rw [if_neg c2] at hm
    refine lv_aload_n S.1 S.2.1 dX8_leads_19 rfl (lv_at hl 1 rfl) ?_
    refine g_get (k := 0) (ci := 7) (f := 3) (v := .ref (ad 4))  S C kiX8_leads_X8 kfX8_leads_20 rfl (by decide) shR_0 rfl rfl dX8_leads_20 ?_
    refine lv_bipush (v := (64 : Int32)) S.1 S.2.1 dX8_leads_23 (by decide) ?_
    refine lv_iload_n S.1 S.2.1 dX8_leads_25 rfl (lv_at hl 2 rfl) ?_
    refine lv_imul S.1 S.2.1 dX8_leads_26 ?_
    refine lv_iload S.1 S.2.1 dX8_leads_27 (lv_at hl 0 rfl) ?_
    refine lv_iadd S.1 S.2.1 dX8_leads_29 ?_
    obtain ⟨h3, hm⟩ := ck_ok hm
    refine g_iald S C (k := 4) shR_4 h3 dX8_leads_30 ?_
    exact gReti S hr hlk C (Option.some.inj hm) rfl dX8_leads_31
  · rw [if_pos c2] at hm
    refine lv_bipush (v := (16 : Int32)) S.1 S.2.1 dX8_leads_14 (by decide) ?_
    refine lv_goto (tgt := 31) S.1 S.2.1 dX8_leads_16 (by decide) ?_
    exact gReti S hr hlk C (Option.some.inj hm) rfl dX8_leads_31
def mX8_find (M : gMem) (x1 : Int32) (x2 : Int32) : Option Int32 := (mX8_isBook x1).bind fun r1 => if r1 = 0 then (some (-1 : Int32)) else ((mX8_number x2).bind fun r3 => (mX8_leads M x1 r3).bind fun r4 => some r4)
set_option maxHeartbeats 4000000 in
set_option maxRecDepth 100000 in
theorem c_X8_find (l : Launch) (D : va_G) (cy : gCy) (ad : Nat → Nat) (M : gMem) (x1 : Int32) (x2 : Int32) (r0 : Int32) (hm : mX8_find M x1 x2 = some r0) : Met l yX8_find wsX8_find (gR 4 93) (va_Pc [.ref (ad 0), .int x1, .int x2] (gP shR D cy ad M)) (gQi shR D cy ad r0 M) 0 0 (gA shR ad) := by
  refine gEnter (cc := cX8_find) (maxL := 3) (ret := (some .int)) (by decide) rfl (Nat.le_of_ble_eq_true rfl) ?_
  intro p e s m below meth c ls S hr hlk C hl
  have S : CallFix p m c cX8_find 3 s _ wsX8_find RX8 := S
  have hl : lv_has ls 3 [(0, .ref (ad 0)), (1, .int x1), (2, .int x2)] := hl
  rw [mX8_find] at hm
  refine lv_iload_n S.1 S.2.1 dX8_find_0 rfl (lv_at hl 1 rfl) ?_
  obtain ⟨r1, hcr1, hm⟩ := bd_ok hm
  refine gC_i C (gRS (As := [.int x1]) (rest := []) 1 S C (c_X8_isBook l D cy ad M x1 r1 hcr1) gX8_find_X8_isBook rfl (by decide +kernel) (by decide) rfl hl.1 rfl (Nat.le_of_ble_eq_true rfl) dX8_find_1) (fun H locs C => ?_)
  refine lv_if_eq (tgt := 19) S.1 S.2.1 dX8_find_4 (by decide) (fun c2 => ?_) (fun c2 => ?_)
  · rw [if_pos c2] at hm
    refine lv_iconst (v := (-1 : Int32)) S.1 S.2.1 dX8_find_19 (by decide) ?_
    exact gReti S hr hlk C (Option.some.inj hm) rfl dX8_find_20
  · rw [if_neg c2] at hm
    refine lv_aload_n S.1 S.2.1 dX8_find_7 rfl (lv_at hl 0 rfl) ?_
    refine lv_iload_n S.1 S.2.1 dX8_find_8 rfl (lv_at hl 1 rfl) ?_
    refine lv_iload_n S.1 S.2.1 dX8_find_9 rfl (lv_at hl 2 rfl) ?_
    obtain ⟨r3, hcr3, hm⟩ := bd_ok hm
    refine gC_l C (gRS (As := [.int x2]) (rest := [.int x1, .ref (ad 0)]) 1 S C (c_X8_number l D cy ad M x2 r3 hcr3) gX8_find_X8_number rfl (by decide +kernel) (by decide) rfl hl.1 rfl (Nat.le_of_ble_eq_true rfl) dX8_find_10) (fun H locs C => ?_)
    obtain ⟨r4, hcr4, hm⟩ := bd_ok hm
    refine gC_i C (gRV (k := 0) (ci := 7) (r := (RX8, TX8, 34)) (As := [.int x1, .long r3]) (rest := []) 2 S C (c_X8_leads l D cy ad M x1 r3 r4 hcr4) gX8_find_X8_leads rfl (by decide +kernel) (by decide) shR_0 rfl rfl rfl hl.1 rfl (Nat.le_of_ble_eq_true rfl) dX8_find_13) (fun H locs C => ?_)
    refine lv_goto (tgt := 20) S.1 S.2.1 dX8_find_16 (by decide) ?_
    exact gReti S hr hlk C (Option.some.inj hm) rfl dX8_find_20
def mX8_longest (M : gMem) (x1 : Int32) (x2 : Int32) : Option Int32 := (mX8_isBook x1).bind fun r1 => if r1 = 0 then (some (-1 : Int32)) else ((mX8_number x2).bind fun r3 => (mX8_best M x1 r3).bind fun r4 => some r4)
set_option maxHeartbeats 4000000 in
set_option maxRecDepth 100000 in
theorem c_X8_longest (l : Launch) (D : va_G) (cy : gCy) (ad : Nat → Nat) (M : gMem) (x1 : Int32) (x2 : Int32) (r0 : Int32) (hm : mX8_longest M x1 x2 = some r0) : Met l yX8_longest wsX8_longest (gR 3 69) (va_Pc [.ref (ad 0), .int x1, .int x2] (gP shR D cy ad M)) (gQi shR D cy ad r0 M) 0 0 (gA shR ad) := by
  refine gEnter (cc := cX8_longest) (maxL := 3) (ret := (some .int)) (by decide) rfl (Nat.le_of_ble_eq_true rfl) ?_
  intro p e s m below meth c ls S hr hlk C hl
  have S : CallFix p m c cX8_longest 3 s _ wsX8_longest RX8 := S
  have hl : lv_has ls 3 [(0, .ref (ad 0)), (1, .int x1), (2, .int x2)] := hl
  rw [mX8_longest] at hm
  refine lv_iload_n S.1 S.2.1 dX8_longest_0 rfl (lv_at hl 1 rfl) ?_
  obtain ⟨r1, hcr1, hm⟩ := bd_ok hm
  refine gC_i C (gRS (As := [.int x1]) (rest := []) 1 S C (c_X8_isBook l D cy ad M x1 r1 hcr1) gX8_longest_X8_isBook rfl (by decide +kernel) (by decide) rfl hl.1 rfl (Nat.le_of_ble_eq_true rfl) dX8_longest_1) (fun H locs C => ?_)
  refine lv_if_eq (tgt := 19) S.1 S.2.1 dX8_longest_4 (by decide) (fun c2 => ?_) (fun c2 => ?_)
  · rw [if_pos c2] at hm
    refine lv_iconst (v := (-1 : Int32)) S.1 S.2.1 dX8_longest_19 (by decide) ?_
    exact gReti S hr hlk C (Option.some.inj hm) rfl dX8_longest_20
  · rw [if_neg c2] at hm
    refine lv_aload_n S.1 S.2.1 dX8_longest_7 rfl (lv_at hl 0 rfl) ?_
    refine lv_iload_n S.1 S.2.1 dX8_longest_8 rfl (lv_at hl 1 rfl) ?_
    refine lv_iload_n S.1 S.2.1 dX8_longest_9 rfl (lv_at hl 2 rfl) ?_
    obtain ⟨r3, hcr3, hm⟩ := bd_ok hm
    refine gC_l C (gRS (As := [.int x2]) (rest := [.int x1, .ref (ad 0)]) 1 S C (c_X8_number l D cy ad M x2 r3 hcr3) gX8_longest_X8_number rfl (by decide +kernel) (by decide) rfl hl.1 rfl (Nat.le_of_ble_eq_true rfl) dX8_longest_10) (fun H locs C => ?_)
    obtain ⟨r4, hcr4, hm⟩ := bd_ok hm
    refine gC_i C (gRV (k := 0) (ci := 7) (r := (RX8, TX8, 34)) (As := [.int x1, .long r3]) (rest := []) 2 S C (c_X8_best l D cy ad M x1 r3 r4 hcr4) gX8_longest_X8_best rfl (by decide +kernel) (by decide) shR_0 rfl rfl rfl hl.1 rfl (Nat.le_of_ble_eq_true rfl) dX8_longest_13) (fun H locs C => ?_)
    refine lv_goto (tgt := 20) S.1 S.2.1 dX8_longest_16 (by decide) ?_
    exact gReti S hr hlk C (Option.some.inj hm) rfl dX8_longest_20
def mX8_leads_ (M : gMem) (x1 : Int32) (x2 : Int32) (x3 : Int32) (x4 : Int64) : Option Int32 := (mX8_leads M x2 x4).bind fun r1 => if x1 = (3 : Int32) then (some r1) else ((mX8_leads M x3 x4).bind fun r3 => if x1 = (0 : Int32) then (if r1 = (16 : Int32) then (some r3) else (some r1)) else (if x1 = (1 : Int32) then (if r1 = r3 then (some r1) else (some (16 : Int32))) else (if x1 = (2 : Int32) then (if r3 = (16 : Int32) then (some r1) else (some (16 : Int32))) else (some (((17 : Int32) * r1) + r3)))))
set_option maxHeartbeats 4000000 in
set_option maxRecDepth 100000 in
theorem c_X8_leads_ (l : Launch) (D : va_G) (cy : gCy) (ad : Nat → Nat) (M : gMem) (x1 : Int32) (x2 : Int32) (x3 : Int32) (x4 : Int64) (r0 : Int32) (hm : mX8_leads_ M x1 x2 x3 x4 = some r0) : Met l yX8_leads_ wsX8_leads_ (gR 4 93) (va_Pc [.ref (ad 0), .int x1, .int x2, .int x3, .long x4] (gP shR D cy ad M)) (gQi shR D cy ad r0 M) 0 0 (gA shR ad) := by
  refine gEnter (cc := cX8_leads_) (maxL := 8) (ret := (some .int)) (by decide) rfl (Nat.le_of_ble_eq_true rfl) ?_
  intro p e s m below meth c ls S hr hlk C hl
  have S : CallFix p m c cX8_leads_ 8 s _ wsX8_leads_ RX8 := S
  have hl : lv_has ls 8 [(0, .ref (ad 0)), (1, .int x1), (2, .int x2), (3, .int x3), (4, .long x4)] := hl
  rw [mX8_leads_] at hm
  refine lv_aload_n S.1 S.2.1 dX8_leads__0 rfl (lv_at hl 0 rfl) ?_
  refine lv_iload_n S.1 S.2.1 dX8_leads__1 rfl (lv_at hl 2 rfl) ?_
  refine lv_lload S.1 S.2.1 dX8_leads__2 (lv_at hl 4 rfl) ?_
  obtain ⟨r1, hcr1, hm⟩ := bd_ok hm
  refine gC_i C (gRV (k := 0) (ci := 7) (r := (RX8, TX8, 34)) (As := [.int x2, .long x4]) (rest := []) 2 S C (c_X8_leads l D cy ad M x2 x4 r1 hcr1) gX8_leads__X8_leads rfl (by decide +kernel) (by decide) shR_0 rfl rfl rfl hl.1 rfl (Nat.le_of_ble_eq_true rfl) dX8_leads__4) (fun H locs C => ?_)
  refine lv_istore (lv' := [(6, .int r1), (0, .ref (ad 0)), (1, .int x1), (2, .int x2), (3, .int x3), (4, .long x4)]) S.1 S.2.1 dX8_leads__7 hl (by decide) rfl (fun ls hl => ?_)
  refine lv_iload_n S.1 S.2.1 dX8_leads__9 rfl (lv_at hl 2 rfl) ?_
  refine lv_iconst (v := (3 : Int32)) S.1 S.2.1 dX8_leads__10 (by decide) ?_
  refine lv_icmp_ne (tgt := 17) S.1 S.2.1 dX8_leads__11 (by decide) (fun c2 => ?_) (fun c2 => ?_)
  · rw [if_neg c2] at hm
    refine lv_aload_n S.1 S.2.1 dX8_leads__17 rfl (lv_at hl 1 rfl) ?_
    refine lv_iload_n S.1 S.2.1 dX8_leads__18 rfl (lv_at hl 4 rfl) ?_
    refine lv_lload S.1 S.2.1 dX8_leads__19 (lv_at hl 5 rfl) ?_
    obtain ⟨r3, hcr3, hm⟩ := bd_ok hm
    refine gC_i C (gRV (k := 0) (ci := 7) (r := (RX8, TX8, 34)) (As := [.int x3, .long x4]) (rest := []) 2 S C (c_X8_leads l D cy ad M x3 x4 r3 hcr3) gX8_leads__X8_leads rfl (by decide +kernel) (by decide) shR_0 rfl rfl rfl hl.1 rfl (Nat.le_of_ble_eq_true rfl) dX8_leads__21) (fun H locs C => ?_)
    refine lv_istore (lv' := [(7, .int r3), (6, .int r1), (0, .ref (ad 0)), (1, .int x1), (2, .int x2), (3, .int x3), (4, .long x4)]) S.1 S.2.1 dX8_leads__24 hl (by decide) rfl (fun ls hl => ?_)
    refine lv_iload_n S.1 S.2.1 dX8_leads__26 rfl (lv_at hl 3 rfl) ?_
    by_cases c4 : x1 = (0 : Int32)
    · rw [if_pos c4] at hm
      refine lv_tableIn (tgt := 52) S.1 S.2.1 dX8_leads__27 (by rw [c4]; decide) (by rw [c4]; decide) (by rw [c4]; rfl) (by decide) ?_
      refine lv_iload S.1 S.2.1 dX8_leads__52 (lv_at hl 1 rfl) ?_
      refine lv_bipush (v := (16 : Int32)) S.1 S.2.1 dX8_leads__54 (by decide) ?_
      refine lv_icmp_eq (tgt := 64) S.1 S.2.1 dX8_leads__56 (by decide) (fun c5 => ?_) (fun c5 => ?_)
      · rw [if_pos c5] at hm
        refine lv_iload S.1 S.2.1 dX8_leads__64 (lv_at hl 0 rfl) ?_
        exact gReti S hr hlk C (Option.some.inj hm) rfl dX8_leads__66
      · rw [if_neg c5] at hm
        refine lv_iload S.1 S.2.1 dX8_leads__59 (lv_at hl 1 rfl) ?_
        refine lv_goto (tgt := 66) S.1 S.2.1 dX8_leads__61 (by decide) ?_
        exact gReti S hr hlk C (Option.some.inj hm) rfl dX8_leads__66
    · rw [if_neg c4] at hm
      by_cases c6 : x1 = (1 : Int32)
      · rw [if_pos c6] at hm
        refine lv_tableIn (tgt := 67) S.1 S.2.1 dX8_leads__27 (by rw [c6]; decide) (by rw [c6]; decide) (by rw [c6]; rfl) (by decide) ?_
        refine lv_iload S.1 S.2.1 dX8_leads__67 (lv_at hl 1 rfl) ?_
        refine lv_iload S.1 S.2.1 dX8_leads__69 (lv_at hl 0 rfl) ?_
        refine lv_icmp_ne (tgt := 79) S.1 S.2.1 dX8_leads__71 (by decide) (fun c7 => ?_) (fun c7 => ?_)
        · rw [if_neg c7] at hm
          refine lv_bipush (v := (16 : Int32)) S.1 S.2.1 dX8_leads__79 (by decide) ?_
          exact gReti S hr hlk C (Option.some.inj hm) rfl dX8_leads__81
        · rw [if_pos c7] at hm
          refine lv_iload S.1 S.2.1 dX8_leads__74 (lv_at hl 1 rfl) ?_
          refine lv_goto (tgt := 81) S.1 S.2.1 dX8_leads__76 (by decide) ?_
          exact gReti S hr hlk C (Option.some.inj hm) rfl dX8_leads__81
      · rw [if_neg c6] at hm
        by_cases c8 : x1 = (2 : Int32)
        · rw [if_pos c8] at hm
          refine lv_tableIn (tgt := 82) S.1 S.2.1 dX8_leads__27 (by rw [c8]; decide) (by rw [c8]; decide) (by rw [c8]; rfl) (by decide) ?_
          refine lv_iload S.1 S.2.1 dX8_leads__82 (lv_at hl 0 rfl) ?_
          refine lv_bipush (v := (16 : Int32)) S.1 S.2.1 dX8_leads__84 (by decide) ?_
          refine lv_icmp_ne (tgt := 94) S.1 S.2.1 dX8_leads__86 (by decide) (fun c9 => ?_) (fun c9 => ?_)
          · rw [if_neg c9] at hm
            refine lv_bipush (v := (16 : Int32)) S.1 S.2.1 dX8_leads__94 (by decide) ?_
            exact gReti S hr hlk C (Option.some.inj hm) rfl dX8_leads__96
          · rw [if_pos c9] at hm
            refine lv_iload S.1 S.2.1 dX8_leads__89 (lv_at hl 1 rfl) ?_
            refine lv_goto (tgt := 96) S.1 S.2.1 dX8_leads__91 (by decide) ?_
            exact gReti S hr hlk C (Option.some.inj hm) rfl dX8_leads__96
        · rw [if_neg c8] at hm
          refine lv_tableOut (tgt := 97) S.1 S.2.1 dX8_leads__27 (tb3 c4 c6 c8) (by decide) ?_
          refine lv_bipush (v := (17 : Int32)) S.1 S.2.1 dX8_leads__97 (by decide) ?_
          refine lv_iload S.1 S.2.1 dX8_leads__99 (lv_at hl 1 rfl) ?_
          refine lv_imul S.1 S.2.1 dX8_leads__101 ?_
          refine lv_iload S.1 S.2.1 dX8_leads__102 (lv_at hl 0 rfl) ?_
          refine lv_iadd S.1 S.2.1 dX8_leads__104 ?_
          exact gReti S hr hlk C (Option.some.inj hm) rfl dX8_leads__105
  · rw [if_pos c2] at hm
    refine lv_iload S.1 S.2.1 dX8_leads__14 (lv_at hl 0 rfl) ?_
    exact gReti S hr hlk C (Option.some.inj hm) rfl dX8_leads__16
