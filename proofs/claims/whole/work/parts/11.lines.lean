theorem kiX2_first_X2 : ∀ w ∈ wsX20, w ∈ wsX2_first := by decide +kernel
theorem kfX2_first_21 : Cond.fieldLink RX2 21 "PrefixLeader$Lines" "address" "[I" ∈ wsX2_first := by decide +kernel
theorem knX2_first_X7_widei : Cond.initialized yX7_wide.cls ∈ wsX2_first := by decide +kernel
theorem knX2_first_X7_wides : Cond.static yX7_wide ∈ wsX2_first := by decide +kernel
theorem kiX2_last_X2 : ∀ w ∈ wsX20, w ∈ wsX2_last := by decide +kernel
theorem kfX2_last_21 : Cond.fieldLink RX2 21 "PrefixLeader$Lines" "address" "[I" ∈ wsX2_last := by decide +kernel
theorem kfX2_last_25 : Cond.fieldLink RX2 25 "PrefixLeader$Lines" "bits" "[I" ∈ wsX2_last := by decide +kernel
theorem knX2_last_X7_maski : Cond.initialized yX7_mask.cls ∈ wsX2_last := by decide +kernel
theorem knX2_last_X7_masks : Cond.static yX7_mask ∈ wsX2_last := by decide +kernel
theorem knX2_last_X7_widei : Cond.initialized yX7_wide.cls ∈ wsX2_last := by decide +kernel
theorem knX2_last_X7_wides : Cond.static yX7_wide ∈ wsX2_last := by decide +kernel
theorem kiX2_isAt_X2 : ∀ w ∈ wsX20, w ∈ wsX2_isAt := by decide +kernel
theorem kfX2_isAt_39 : Cond.fieldLink RX2 39 "PrefixLeader$Lines" "size" "I" ∈ wsX2_isAt := by decide +kernel
theorem kfX2_isAt_21 : Cond.fieldLink RX2 21 "PrefixLeader$Lines" "address" "[I" ∈ wsX2_isAt := by decide +kernel
theorem kfX2_isAt_25 : Cond.fieldLink RX2 25 "PrefixLeader$Lines" "bits" "[I" ∈ wsX2_isAt := by decide +kernel
theorem kiX2_isAhead_X2 : ∀ w ∈ wsX20, w ∈ wsX2_isAhead := by decide +kernel
theorem kfX2_isAhead_21 : Cond.fieldLink RX2 21 "PrefixLeader$Lines" "address" "[I" ∈ wsX2_isAhead := by decide +kernel
theorem knX2_isAhead_X7_widei : Cond.initialized yX7_wide.cls ∈ wsX2_isAhead := by decide +kernel
theorem knX2_isAhead_X7_wides : Cond.static yX7_wide ∈ wsX2_isAhead := by decide +kernel
theorem kfX2_isAhead_25 : Cond.fieldLink RX2 25 "PrefixLeader$Lines" "bits" "[I" ∈ wsX2_isAhead := by decide +kernel
theorem kiX2_placeOf_X2 : ∀ w ∈ wsX20, w ∈ wsX2_placeOf := by decide +kernel
theorem kfX2_placeOf_39 : Cond.fieldLink RX2 39 "PrefixLeader$Lines" "size" "I" ∈ wsX2_placeOf := by decide +kernel
theorem kiX2_hasLine_X2 : ∀ w ∈ wsX20, w ∈ wsX2_hasLine := by decide +kernel
theorem kfX2_hasLine_28 : Cond.fieldLink RX2 28 "PrefixLeader$Lines" "goal" "[I" ∈ wsX2_hasLine := by decide +kernel
theorem kmX2_endOf_9l : Cond.methodLink RX2 9 Lib.Math.max.name ∈ wsX2_endOf := by decide +kernel
theorem kmX2_endOf_9s : Cond.static Lib.Math.max.name ∈ wsX2_endOf := by decide +kernel
theorem kmX2_endOf_9i : Cond.initialized "java/lang/Math" ∈ wsX2_endOf := by decide +kernel
theorem kmX2_endOf_9c : Cond.code Lib.Math.max.name Lib.Math.max.code 2 (some .int) ∈ wsX2_endOf := by decide +kernel
theorem kiX2_endOf_X2 : ∀ w ∈ wsX20, w ∈ wsX2_endOf := by decide +kernel
theorem kfX2_endOf_39 : Cond.fieldLink RX2 39 "PrefixLeader$Lines" "size" "I" ∈ wsX2_endOf := by decide +kernel
theorem kfX2_endOf_21 : Cond.fieldLink RX2 21 "PrefixLeader$Lines" "address" "[I" ∈ wsX2_endOf := by decide +kernel
theorem knX2_endOf_X7_beginsi : Cond.initialized yX7_begins.cls ∈ wsX2_endOf := by decide +kernel
theorem knX2_endOf_X7_beginss : Cond.static yX7_begins ∈ wsX2_endOf := by decide +kernel
theorem kiX2_lastHolder_X2 : ∀ w ∈ wsX20, w ∈ wsX2_lastHolder := by decide +kernel
theorem kfX2_lastHolder_39 : Cond.fieldLink RX2 39 "PrefixLeader$Lines" "size" "I" ∈ wsX2_lastHolder := by decide +kernel
theorem kmX2_lastHolder_55l : Cond.methodLink RX2 55 Lib.Math.min.name ∈ wsX2_lastHolder := by decide +kernel
theorem kmX2_lastHolder_55s : Cond.static Lib.Math.min.name ∈ wsX2_lastHolder := by decide +kernel
theorem kmX2_lastHolder_55i : Cond.initialized "java/lang/Math" ∈ wsX2_lastHolder := by decide +kernel
theorem kmX2_lastHolder_55c : Cond.code Lib.Math.min.name Lib.Math.min.code 2 (some .int) ∈ wsX2_lastHolder := by decide +kernel
theorem kfX2_lastHolder_21 : Cond.fieldLink RX2 21 "PrefixLeader$Lines" "address" "[I" ∈ wsX2_lastHolder := by decide +kernel
theorem kfX2_lastHolder_25 : Cond.fieldLink RX2 25 "PrefixLeader$Lines" "bits" "[I" ∈ wsX2_lastHolder := by decide +kernel
theorem knX2_lastHolder_X7_beginsi : Cond.initialized yX7_begins.cls ∈ wsX2_lastHolder := by decide +kernel
theorem knX2_lastHolder_X7_beginss : Cond.static yX7_begins ∈ wsX2_lastHolder := by decide +kernel
theorem kiX2_goalAmong_X2 : ∀ w ∈ wsX20, w ∈ wsX2_goalAmong := by decide +kernel
theorem kfX2_goalAmong_28 : Cond.fieldLink RX2 28 "PrefixLeader$Lines" "goal" "[I" ∈ wsX2_goalAmong := by decide +kernel
theorem kiX2_clear_X2 : ∀ w ∈ wsX20, w ∈ wsX2_clear := by decide +kernel
theorem kfX2_clear_39 : Cond.fieldLink RX2 39 "PrefixLeader$Lines" "size" "I" ∈ wsX2_clear := by decide +kernel
theorem kiX2_append_X2 : ∀ w ∈ wsX20, w ∈ wsX2_append := by decide +kernel
theorem kfX2_append_39 : Cond.fieldLink RX2 39 "PrefixLeader$Lines" "size" "I" ∈ wsX2_append := by decide +kernel
theorem kfX2_append_15 : Cond.fieldLink RX2 15 "PrefixLeader$Lines" "room" "I" ∈ wsX2_append := by decide +kernel
theorem kfX2_append_21 : Cond.fieldLink RX2 21 "PrefixLeader$Lines" "address" "[I" ∈ wsX2_append := by decide +kernel
theorem kfX2_append_25 : Cond.fieldLink RX2 25 "PrefixLeader$Lines" "bits" "[I" ∈ wsX2_append := by decide +kernel
theorem kfX2_append_28 : Cond.fieldLink RX2 28 "PrefixLeader$Lines" "goal" "[I" ∈ wsX2_append := by decide +kernel
theorem kiX2_write_X2 : ∀ w ∈ wsX20, w ∈ wsX2_write := by decide +kernel
theorem kfX2_write_21 : Cond.fieldLink RX2 21 "PrefixLeader$Lines" "address" "[I" ∈ wsX2_write := by decide +kernel
theorem kfX2_write_25 : Cond.fieldLink RX2 25 "PrefixLeader$Lines" "bits" "[I" ∈ wsX2_write := by decide +kernel
theorem kfX2_write_28 : Cond.fieldLink RX2 28 "PrefixLeader$Lines" "goal" "[I" ∈ wsX2_write := by decide +kernel
theorem kiX2_insert_X2 : ∀ w ∈ wsX20, w ∈ wsX2_insert := by decide +kernel
theorem kfX2_insert_39 : Cond.fieldLink RX2 39 "PrefixLeader$Lines" "size" "I" ∈ wsX2_insert := by decide +kernel
theorem kfX2_insert_15 : Cond.fieldLink RX2 15 "PrefixLeader$Lines" "room" "I" ∈ wsX2_insert := by decide +kernel
theorem kfX2_insert_21 : Cond.fieldLink RX2 21 "PrefixLeader$Lines" "address" "[I" ∈ wsX2_insert := by decide +kernel
theorem kfX2_insert_25 : Cond.fieldLink RX2 25 "PrefixLeader$Lines" "bits" "[I" ∈ wsX2_insert := by decide +kernel
theorem kfX2_insert_28 : Cond.fieldLink RX2 28 "PrefixLeader$Lines" "goal" "[I" ∈ wsX2_insert := by decide +kernel
theorem kiX2_removeAt_X2 : ∀ w ∈ wsX20, w ∈ wsX2_removeAt := by decide +kernel
theorem kfX2_removeAt_39 : Cond.fieldLink RX2 39 "PrefixLeader$Lines" "size" "I" ∈ wsX2_removeAt := by decide +kernel
theorem kfX2_removeAt_21 : Cond.fieldLink RX2 21 "PrefixLeader$Lines" "address" "[I" ∈ wsX2_removeAt := by decide +kernel
theorem kfX2_removeAt_25 : Cond.fieldLink RX2 25 "PrefixLeader$Lines" "bits" "[I" ∈ wsX2_removeAt := by decide +kernel
theorem kfX2_removeAt_28 : Cond.fieldLink RX2 28 "PrefixLeader$Lines" "goal" "[I" ∈ wsX2_removeAt := by decide +kernel
theorem kiX2_become_X2 : ∀ w ∈ wsX20, w ∈ wsX2_become := by decide +kernel
theorem kfX2_become_39 : Cond.fieldLink RX2 39 "PrefixLeader$Lines" "size" "I" ∈ wsX2_become := by decide +kernel
theorem kfX2_become_15 : Cond.fieldLink RX2 15 "PrefixLeader$Lines" "room" "I" ∈ wsX2_become := by decide +kernel
theorem kmX2_become_55l : Cond.methodLink RX2 55 Lib.Math.min.name ∈ wsX2_become := by decide +kernel
theorem kmX2_become_55s : Cond.static Lib.Math.min.name ∈ wsX2_become := by decide +kernel
theorem kmX2_become_55i : Cond.initialized "java/lang/Math" ∈ wsX2_become := by decide +kernel
theorem kmX2_become_55c : Cond.code Lib.Math.min.name Lib.Math.min.code 2 (some .int) ∈ wsX2_become := by decide +kernel
theorem kfX2_become_21 : Cond.fieldLink RX2 21 "PrefixLeader$Lines" "address" "[I" ∈ wsX2_become := by decide +kernel
theorem kfX2_become_25 : Cond.fieldLink RX2 25 "PrefixLeader$Lines" "bits" "[I" ∈ wsX2_become := by decide +kernel
theorem kfX2_become_28 : Cond.fieldLink RX2 28 "PrefixLeader$Lines" "goal" "[I" ∈ wsX2_become := by decide +kernel
theorem kiX2_merge_X2 : ∀ w ∈ wsX20, w ∈ wsX2_merge := by decide +kernel
theorem kfX2_merge_39 : Cond.fieldLink RX2 39 "PrefixLeader$Lines" "size" "I" ∈ wsX2_merge := by decide +kernel
theorem kfX2_merge_21 : Cond.fieldLink RX2 21 "PrefixLeader$Lines" "address" "[I" ∈ wsX2_merge := by decide +kernel
theorem kfX2_merge_25 : Cond.fieldLink RX2 25 "PrefixLeader$Lines" "bits" "[I" ∈ wsX2_merge := by decide +kernel
theorem kiX2_commonBits_X2 : ∀ w ∈ wsX20, w ∈ wsX2_commonBits := by decide +kernel
theorem kfX2_commonBits_21 : Cond.fieldLink RX2 21 "PrefixLeader$Lines" "address" "[I" ∈ wsX2_commonBits := by decide +kernel
theorem kfX2_commonBits_25 : Cond.fieldLink RX2 25 "PrefixLeader$Lines" "bits" "[I" ∈ wsX2_commonBits := by decide +kernel
theorem knX2_commonBits_X7_bitAti : Cond.initialized yX7_bitAt.cls ∈ wsX2_commonBits := by decide +kernel
theorem knX2_commonBits_X7_bitAts : Cond.static yX7_bitAt ∈ wsX2_commonBits := by decide +kernel
theorem kiX2_firstHigh_X2 : ∀ w ∈ wsX20, w ∈ wsX2_firstHigh := by decide +kernel
theorem kfX2_firstHigh_21 : Cond.fieldLink RX2 21 "PrefixLeader$Lines" "address" "[I" ∈ wsX2_firstHigh := by decide +kernel
theorem knX2_firstHigh_X7_bitAti : Cond.initialized yX7_bitAt.cls ∈ wsX2_firstHigh := by decide +kernel
theorem knX2_firstHigh_X7_bitAts : Cond.static yX7_bitAt ∈ wsX2_firstHigh := by decide +kernel
def mX2_first (M : gMem) (x0 : Nat) (x1 : Int32) : Option Int64 := ck (inb x1 (lnOf x0)) <| (mX7_wide (M.1 (x0 + 1) x1.toNatClampNeg)).bind fun r2 => some r2
set_option maxHeartbeats 4000000 in
set_option maxRecDepth 100000 in
theorem c_X2_first (l : Launch) (D : va_G) (cy : gCy) (ad : Nat → Nat) (M : gMem) (x0 : Nat) (hL0 : isL x0) (x1 : Int32) (r0 : Int64) (hm : mX2_first M x0 x1 = some r0) : Met l yX2_first wsX2_first (gR 1 20) (va_Pc [.ref (ad x0), .int x1] (gP shC D cy ad M)) (gQl shC D cy ad r0 M) 0 0 (gA shC ad) := by
  refine gEnter (cc := cX2_first) (maxL := 2) (ret := (some .long)) (by decide) rfl (Nat.le_of_ble_eq_true rfl) ?_
  intro p e s m below meth c ls S hr hlk C hl
  have S : CallFix p m c cX2_first 2 s _ wsX2_first RX2 := S
  have hl : lv_has ls 2 [(0, .ref (ad x0)), (1, .int x1)] := hl
  rw [mX2_first] at hm
  refine lv_aload_n S.1 S.2.1 dX2_first_0 rfl (lv_at hl 0 rfl) ?_
  refine g_get (k := x0) (ci := 2) (f := 0) (v := .ref (ad (x0 + 1)))  S C kiX2_first_X2 kfX2_first_21 rfl (by decide) hL0.1 rfl rfl dX2_first_1 ?_
  refine lv_iload_n S.1 S.2.1 dX2_first_4 rfl (lv_at hl 1 rfl) ?_
  obtain ⟨h1, hm⟩ := ck_ok hm
  refine g_iald S C (k := (x0 + 1)) (hL0).2.1 h1 dX2_first_5 ?_
  obtain ⟨r2, hcr2, hm⟩ := bd_ok hm
  refine gC_l C (gRSN (host := "PrefixLeader") (As := [.int (M.1 (x0 + 1) x1.toNatClampNeg)]) (rest := []) 1 S C (c_X7_wide l D cy ad M (M.1 (x0 + 1) x1.toNatClampNeg) r2 hcr2) gX2_first_X7_wide_n31 rfl (by decide +kernel) knX2_first_X7_widei knX2_first_X7_wides (by decide +kernel) (by decide) rfl hl.1 rfl (Nat.le_of_ble_eq_true rfl) dX2_first_6) (fun H locs C => ?_)
  exact gRetl S hr hlk C (Option.some.inj hm) rfl dX2_first_9
def mX2_last (M : gMem) (x0 : Nat) (x1 : Int32) : Option Int64 := ck (inb x1 (lnOf x0)) <| ck (inb x1 (lnOf x0)) <| (mX7_mask (M.1 (x0 + 2) x1.toNatClampNeg)).bind fun r3 => (mX7_wide ((M.1 (x0 + 1) x1.toNatClampNeg) ||| (r3 ^^^ (-1 : Int32)))).bind fun r4 => some r4
set_option maxHeartbeats 4000000 in
set_option maxRecDepth 100000 in
theorem c_X2_last (l : Launch) (D : va_G) (cy : gCy) (ad : Nat → Nat) (M : gMem) (x0 : Nat) (hL0 : isL x0) (x1 : Int32) (r0 : Int64) (hm : mX2_last M x0 x1 = some r0) : Met l yX2_last wsX2_last (gR 2 43) (va_Pc [.ref (ad x0), .int x1] (gP shC D cy ad M)) (gQl shC D cy ad r0 M) 0 0 (gA shC ad) := by
  refine gEnter (cc := cX2_last) (maxL := 2) (ret := (some .long)) (by decide) rfl (Nat.le_of_ble_eq_true rfl) ?_
  intro p e s m below meth c ls S hr hlk C hl
  have S : CallFix p m c cX2_last 2 s _ wsX2_last RX2 := S
  have hl : lv_has ls 2 [(0, .ref (ad x0)), (1, .int x1)] := hl
  rw [mX2_last] at hm
  refine lv_aload_n S.1 S.2.1 dX2_last_0 rfl (lv_at hl 0 rfl) ?_
  refine g_get (k := x0) (ci := 2) (f := 0) (v := .ref (ad (x0 + 1)))  S C kiX2_last_X2 kfX2_last_21 rfl (by decide) hL0.1 rfl rfl dX2_last_1 ?_
  refine lv_iload_n S.1 S.2.1 dX2_last_4 rfl (lv_at hl 1 rfl) ?_
  obtain ⟨h1, hm⟩ := ck_ok hm
  refine g_iald S C (k := (x0 + 1)) (hL0).2.1 h1 dX2_last_5 ?_
  refine lv_aload_n S.1 S.2.1 dX2_last_6 rfl (lv_at hl 0 rfl) ?_
  refine g_get (k := x0) (ci := 2) (f := 1) (v := .ref (ad (x0 + 2)))  S C kiX2_last_X2 kfX2_last_25 rfl (by decide) hL0.1 rfl rfl dX2_last_7 ?_
  refine lv_iload_n S.1 S.2.1 dX2_last_10 rfl (lv_at hl 1 rfl) ?_
  obtain ⟨h2, hm⟩ := ck_ok hm
  refine g_iald S C (k := (x0 + 2)) (hL0).2.2.1 h2 dX2_last_11 ?_
  obtain ⟨r3, hcr3, hm⟩ := bd_ok hm
  refine gC_i C (gRSN (host := "PrefixLeader") (As := [.int (M.1 (x0 + 2) x1.toNatClampNeg)]) (rest := [.int (M.1 (x0 + 1) x1.toNatClampNeg)]) 1 S C (c_X7_mask l D cy ad M (M.1 (x0 + 2) x1.toNatClampNeg) r3 hcr3) gX2_last_X7_mask_n35 rfl (by decide +kernel) knX2_last_X7_maski knX2_last_X7_masks (by decide +kernel) (by decide) rfl hl.1 rfl (Nat.le_of_ble_eq_true rfl) dX2_last_12) (fun H locs C => ?_)
  refine lv_iconst (v := (-1 : Int32)) S.1 S.2.1 dX2_last_15 (by decide) ?_
  refine lv_ixor S.1 S.2.1 dX2_last_16 ?_
  refine lv_ior S.1 S.2.1 dX2_last_17 ?_
  obtain ⟨r4, hcr4, hm⟩ := bd_ok hm
  refine gC_l C (gRSN (host := "PrefixLeader") (As := [.int ((M.1 (x0 + 1) x1.toNatClampNeg) ||| (r3 ^^^ (-1 : Int32)))]) (rest := []) 1 S C (c_X7_wide l D cy ad M ((M.1 (x0 + 1) x1.toNatClampNeg) ||| (r3 ^^^ (-1 : Int32))) r4 hcr4) gX2_last_X7_wide_n31 rfl (by decide +kernel) knX2_last_X7_widei knX2_last_X7_wides (by decide +kernel) (by decide) rfl hl.1 rfl (Nat.le_of_ble_eq_true rfl) dX2_last_18) (fun H locs C => ?_)
  exact gRetl S hr hlk C (Option.some.inj hm) rfl dX2_last_21
def mX2_isAt (M : gMem) (x0 : Nat) (x1 : Int32) (x2 : Int32) (x3 : Int32) : Option Int32 := if x1 < 0 then (some (0 : Int32)) else (if (M.1 x0 4) ≤ x1 then (some (0 : Int32)) else (ck (inb x1 (lnOf x0)) <| if (M.1 (x0 + 1) x1.toNatClampNeg) = x2 then (ck (inb x1 (lnOf x0)) <| if (M.1 (x0 + 2) x1.toNatClampNeg) = x3 then (some (1 : Int32)) else (some (0 : Int32))) else (some (0 : Int32))))
set_option maxHeartbeats 4000000 in
set_option maxRecDepth 100000 in
theorem c_X2_isAt (l : Launch) (D : va_G) (cy : gCy) (ad : Nat → Nat) (M : gMem) (x0 : Nat) (hL0 : isL x0) (x1 : Int32) (x2 : Int32) (x3 : Int32) (r0 : Int32) (hm : mX2_isAt M x0 x1 x2 x3 = some r0) : Met l yX2_isAt wsX2_isAt (gR 0 0) (va_Pc [.ref (ad x0), .int x1, .int x2, .int x3] (gP shC D cy ad M)) (gQi shC D cy ad r0 M) 0 0 (gA shC ad) := by
  refine gEnter (cc := cX2_isAt) (maxL := 4) (ret := (some .boolean)) (by decide) rfl (Nat.le_of_ble_eq_true rfl) ?_
  intro p e s m below meth c ls S hr hlk C hl
  have S : CallFix p m c cX2_isAt 4 s _ wsX2_isAt RX2 := S
  have hl : lv_has ls 4 [(0, .ref (ad x0)), (1, .int x1), (2, .int x2), (3, .int x3)] := hl
  rw [mX2_isAt] at hm
  refine lv_iload_n S.1 S.2.1 dX2_isAt_0 rfl (lv_at hl 1 rfl) ?_
  refine lv_if_lt (tgt := 36) S.1 S.2.1 dX2_isAt_1 (by decide) (fun c1 => ?_) (fun c1 => ?_)
  · rw [if_pos c1] at hm
    refine lv_iconst (v := (0 : Int32)) S.1 S.2.1 dX2_isAt_36 (by decide) ?_
    exact gRetz S hr hlk C rfl (Option.some.inj hm) rfl dX2_isAt_37
  · rw [if_neg c1] at hm
    refine lv_iload_n S.1 S.2.1 dX2_isAt_4 rfl (lv_at hl 1 rfl) ?_
    refine lv_aload_n S.1 S.2.1 dX2_isAt_5 rfl (lv_at hl 0 rfl) ?_
    refine g_get (k := x0) (ci := 2) (f := 4) (v := .int (M.1 x0 4))  S C kiX2_isAt_X2 kfX2_isAt_39 rfl (by decide) hL0.1 rfl rfl dX2_isAt_6 ?_
    refine lv_icmp_ge (tgt := 36) S.1 S.2.1 dX2_isAt_9 (by decide) (fun c2 => ?_) (fun c2 => ?_)
    · rw [if_pos c2] at hm
      refine lv_iconst (v := (0 : Int32)) S.1 S.2.1 dX2_isAt_36 (by decide) ?_
      exact gRetz S hr hlk C rfl (Option.some.inj hm) rfl dX2_isAt_37
    · rw [if_neg c2] at hm
      refine lv_aload_n S.1 S.2.1 dX2_isAt_12 rfl (lv_at hl 0 rfl) ?_
      refine g_get (k := x0) (ci := 2) (f := 0) (v := .ref (ad (x0 + 1)))  S C kiX2_isAt_X2 kfX2_isAt_21 rfl (by decide) hL0.1 rfl rfl dX2_isAt_13 ?_
      refine lv_iload_n S.1 S.2.1 dX2_isAt_16 rfl (lv_at hl 1 rfl) ?_
      obtain ⟨h3, hm⟩ := ck_ok hm
      refine g_iald S C (k := (x0 + 1)) (hL0).2.1 h3 dX2_isAt_17 ?_
      refine lv_iload_n S.1 S.2.1 dX2_isAt_18 rfl (lv_at hl 2 rfl) ?_
      refine lv_icmp_ne (tgt := 36) S.1 S.2.1 dX2_isAt_19 (by decide) (fun c4 => ?_) (fun c4 => ?_)
      · rw [if_neg c4] at hm
        refine lv_iconst (v := (0 : Int32)) S.1 S.2.1 dX2_isAt_36 (by decide) ?_
        exact gRetz S hr hlk C rfl (Option.some.inj hm) rfl dX2_isAt_37
      · rw [if_pos c4] at hm
        refine lv_aload_n S.1 S.2.1 dX2_isAt_22 rfl (lv_at hl 0 rfl) ?_
        refine g_get (k := x0) (ci := 2) (f := 1) (v := .ref (ad (x0 + 2)))  S C kiX2_isAt_X2 kfX2_isAt_25 rfl (by decide) hL0.1 rfl rfl dX2_isAt_23 ?_
        refine lv_iload_n S.1 S.2.1 dX2_isAt_26 rfl (lv_at hl 1 rfl) ?_
        obtain ⟨h5, hm⟩ := ck_ok hm
        refine g_iald S C (k := (x0 + 2)) (hL0).2.2.1 h5 dX2_isAt_27 ?_
        refine lv_iload_n S.1 S.2.1 dX2_isAt_28 rfl (lv_at hl 3 rfl) ?_
        refine lv_icmp_ne (tgt := 36) S.1 S.2.1 dX2_isAt_29 (by decide) (fun c6 => ?_) (fun c6 => ?_)
        · rw [if_neg c6] at hm
          refine lv_iconst (v := (0 : Int32)) S.1 S.2.1 dX2_isAt_36 (by decide) ?_
          exact gRetz S hr hlk C rfl (Option.some.inj hm) rfl dX2_isAt_37
        · rw [if_pos c6] at hm
          refine lv_iconst (v := (1 : Int32)) S.1 S.2.1 dX2_isAt_32 (by decide) ?_
          refine lv_goto (tgt := 37) S.1 S.2.1 dX2_isAt_33 (by decide) ?_
          exact gRetz S hr hlk C rfl (Option.some.inj hm) rfl dX2_isAt_37
def mX2_isAhead (M : gMem) (x0 : Nat) (x1 : Int32) (x2 : Int32) (x3 : Int32) : Option Int32 := ck (inb x1 (lnOf x0)) <| if (M.1 (x0 + 1) x1.toNatClampNeg) = x2 then (ck (inb x1 (lnOf x0)) <| if x3 ≤ (M.1 (x0 + 2) x1.toNatClampNeg) then (some (0 : Int32)) else (some (1 : Int32))) else (ck (inb x1 (lnOf x0)) <| (mX7_wide (M.1 (x0 + 1) x1.toNatClampNeg)).bind fun r4 => (mX7_wide x2).bind fun r5 => if r5 ≤ r4 then (some (0 : Int32)) else (some (1 : Int32)))
set_option maxHeartbeats 4000000 in
set_option maxRecDepth 100000 in
theorem c_X2_isAhead (l : Launch) (D : va_G) (cy : gCy) (ad : Nat → Nat) (M : gMem) (x0 : Nat) (hL0 : isL x0) (x1 : Int32) (x2 : Int32) (x3 : Int32) (r0 : Int32) (hm : mX2_isAhead M x0 x1 x2 x3 = some r0) : Met l yX2_isAhead wsX2_isAhead (gR 1 20) (va_Pc [.ref (ad x0), .int x1, .int x2, .int x3] (gP shC D cy ad M)) (gQi shC D cy ad r0 M) 0 0 (gA shC ad) := by
  refine gEnter (cc := cX2_isAhead) (maxL := 4) (ret := (some .boolean)) (by decide) rfl (Nat.le_of_ble_eq_true rfl) ?_
  intro p e s m below meth c ls S hr hlk C hl
  have S : CallFix p m c cX2_isAhead 4 s _ wsX2_isAhead RX2 := S
  have hl : lv_has ls 4 [(0, .ref (ad x0)), (1, .int x1), (2, .int x2), (3, .int x3)] := hl
  rw [mX2_isAhead] at hm
  refine lv_aload_n S.1 S.2.1 dX2_isAhead_0 rfl (lv_at hl 0 rfl) ?_
  refine g_get (k := x0) (ci := 2) (f := 0) (v := .ref (ad (x0 + 1)))  S C kiX2_isAhead_X2 kfX2_isAhead_21 rfl (by decide) hL0.1 rfl rfl dX2_isAhead_1 ?_
  refine lv_iload_n S.1 S.2.1 dX2_isAhead_4 rfl (lv_at hl 1 rfl) ?_
  obtain ⟨h1, hm⟩ := ck_ok hm
  refine g_iald S C (k := (x0 + 1)) (hL0).2.1 h1 dX2_isAhead_5 ?_
  refine lv_iload_n S.1 S.2.1 dX2_isAhead_6 rfl (lv_at hl 2 rfl) ?_
  refine lv_icmp_ne (tgt := 26) S.1 S.2.1 dX2_isAhead_7 (by decide) (fun c2 => ?_) (fun c2 => ?_)
  · rw [if_neg c2] at hm
    refine lv_aload_n S.1 S.2.1 dX2_isAhead_26 rfl (lv_at hl 0 rfl) ?_
    refine g_get (k := x0) (ci := 2) (f := 0) (v := .ref (ad (x0 + 1)))  S C kiX2_isAhead_X2 kfX2_isAhead_21 rfl (by decide) hL0.1 rfl rfl dX2_isAhead_27 ?_
    refine lv_iload_n S.1 S.2.1 dX2_isAhead_30 rfl (lv_at hl 1 rfl) ?_
    obtain ⟨h3, hm⟩ := ck_ok hm
    refine g_iald S C (k := (x0 + 1)) (hL0).2.1 h3 dX2_isAhead_31 ?_
    obtain ⟨r4, hcr4, hm⟩ := bd_ok hm
    refine gC_l C (gRSN (host := "PrefixLeader") (As := [.int (M.1 (x0 + 1) x1.toNatClampNeg)]) (rest := []) 1 S C (c_X7_wide l D cy ad M (M.1 (x0 + 1) x1.toNatClampNeg) r4 hcr4) gX2_isAhead_X7_wide_n31 rfl (by decide +kernel) knX2_isAhead_X7_widei knX2_isAhead_X7_wides (by decide +kernel) (by decide) rfl hl.1 rfl (Nat.le_of_ble_eq_true rfl) dX2_isAhead_32) (fun H locs C => ?_)
    refine lv_iload_n S.1 S.2.1 dX2_isAhead_35 rfl (lv_at hl 2 rfl) ?_
    obtain ⟨r5, hcr5, hm⟩ := bd_ok hm
    refine gC_l C (gRSN (host := "PrefixLeader") (As := [.int x2]) (rest := [.long r4]) 1 S C (c_X7_wide l D cy ad M x2 r5 hcr5) gX2_isAhead_X7_wide_n31 rfl (by decide +kernel) knX2_isAhead_X7_widei knX2_isAhead_X7_wides (by decide +kernel) (by decide) rfl hl.1 rfl (Nat.le_of_ble_eq_true rfl) dX2_isAhead_36) (fun H locs C => ?_)
    refine W.lcmp S.1 S.2.1 dX2_isAhead_39 ?_
    refine lv_if_ge (tgt := 47) S.1 S.2.1 dX2_isAhead_40 (by decide) (fun c6 => ?_) (fun c6 => ?_)
    · rw [if_pos (cmp_ge.mp c6)] at hm
      refine lv_iconst (v := (0 : Int32)) S.1 S.2.1 dX2_isAhead_47 (by decide) ?_
      exact gRetz S hr hlk C rfl (Option.some.inj hm) rfl dX2_isAhead_48
    · rw [if_neg (fun q => c6 (cmp_ge.mpr q))] at hm
      refine lv_iconst (v := (1 : Int32)) S.1 S.2.1 dX2_isAhead_43 (by decide) ?_
      refine lv_goto (tgt := 48) S.1 S.2.1 dX2_isAhead_44 (by decide) ?_
      exact gRetz S hr hlk C rfl (Option.some.inj hm) rfl dX2_isAhead_48
  · rw [if_pos c2] at hm
    refine lv_aload_n S.1 S.2.1 dX2_isAhead_10 rfl (lv_at hl 0 rfl) ?_
    refine g_get (k := x0) (ci := 2) (f := 1) (v := .ref (ad (x0 + 2)))  S C kiX2_isAhead_X2 kfX2_isAhead_25 rfl (by decide) hL0.1 rfl rfl dX2_isAhead_11 ?_
    refine lv_iload_n S.1 S.2.1 dX2_isAhead_14 rfl (lv_at hl 1 rfl) ?_
    obtain ⟨h7, hm⟩ := ck_ok hm
    refine g_iald S C (k := (x0 + 2)) (hL0).2.2.1 h7 dX2_isAhead_15 ?_
    refine lv_iload_n S.1 S.2.1 dX2_isAhead_16 rfl (lv_at hl 3 rfl) ?_
    refine lv_icmp_ge (tgt := 24) S.1 S.2.1 dX2_isAhead_17 (by decide) (fun c8 => ?_) (fun c8 => ?_)
    · rw [if_pos c8] at hm
      refine lv_iconst (v := (0 : Int32)) S.1 S.2.1 dX2_isAhead_24 (by decide) ?_
      exact gRetz S hr hlk C rfl (Option.some.inj hm) rfl dX2_isAhead_25
    · rw [if_neg c8] at hm
      refine lv_iconst (v := (1 : Int32)) S.1 S.2.1 dX2_isAhead_20 (by decide) ?_
      refine lv_goto (tgt := 25) S.1 S.2.1 dX2_isAhead_21 (by decide) ?_
      exact gRetz S hr hlk C rfl (Option.some.inj hm) rfl dX2_isAhead_25
def mX2_placeOf_2 : Nat → gMem → Nat → Int32 → Int32 → Int32 → Option Int32
  | 0, _, _, _, _, _ => none
  | n + 1, M, x0, x1, x2, x3 => if (M.1 x0 4) ≤ x3 then (some (M.1 x0 4)) else ((mX2_isAhead M x0 x3 x1 x2).bind fun r2 => if r2 = 0 then (some x3) else (nmd (x3 + (1 : Int32)) fun y4 => mX2_placeOf_2 n M x0 x1 x2 y4))
def mX2_placeOf (M : gMem) (x0 : Nat) (x1 : Int32) (x2 : Int32) : Option Int32 := mX2_placeOf_2 FU M x0 x1 x2 (0 : Int32)
set_option maxHeartbeats 4000000 in
set_option maxRecDepth 100000 in
theorem wX2_placeOf_2 {p : Program} {l : Launch} {e : Env} {s : State} {m : MethodId} {args : Array Value} {below : List Frame} {meth : Method} {c : Code} {D : va_G} {cy : gCy} {ad : Nat → Nat} {M : gMem} {r0 : Int32} (S : CallFix p m c cX2_placeOf 4 s args wsX2_placeOf RX2) (hr : meth.sig.returnType = (some .int)) (hlk : meth.locks = false) : ∀ (n : Nat), ∀ (H : Heap) (locs : List Loc), gW shC D cy ad s s.heap M H locs → ∀ (x0 : Nat) (hL0 : isL x0) (x1 : Int32) (x2 : Int32) (x3 : Int32), ∀ (ls : Array Slot), lv_has ls 4 [(0, .ref (ad x0)), (1, .int x1), (2, .int x2), (3, .int x3)] → mX2_placeOf_2 n M x0 x1 x2 x3 = some r0 → W p l e (gR 2 43) s m args below meth c H locs 0 0 (MQ below (gQi shC D cy ad r0 M) args s 0 0 (gA shC ad)) (F0 m 2 ls []) := by
  intro n
  induction n with
  | zero => intro H locs C x0 hL0 x1 x2 x3 ls hl hm; exact absurd hm (by simp [mX2_placeOf_2])
  | succ n ih =>
    intro H locs C x0 hL0 x1 x2 x3 ls hl hm
    rw [mX2_placeOf_2] at hm
    refine lv_iload_n S.1 S.2.1 dX2_placeOf_2 rfl (lv_at hl 3 rfl) ?_
    refine lv_aload_n S.1 S.2.1 dX2_placeOf_3 rfl (lv_at hl 0 rfl) ?_
    refine g_get (k := x0) (ci := 2) (f := 4) (v := .int (M.1 x0 4))  S C kiX2_placeOf_X2 kfX2_placeOf_39 rfl (by decide) hL0.1 rfl rfl dX2_placeOf_4 ?_
    refine lv_icmp_ge (tgt := 28) S.1 S.2.1 dX2_placeOf_7 (by decide) (fun c1 => ?_) (fun c1 => ?_)
    · rw [if_pos c1] at hm
      refine lv_aload_n S.1 S.2.1 dX2_placeOf_28 rfl (lv_at hl 0 rfl) ?_
      refine g_get (k := x0) (ci := 2) (f := 4) (v := .int (M.1 x0 4))  S C kiX2_placeOf_X2 kfX2_placeOf_39 rfl (by decide) hL0.1 rfl rfl dX2_placeOf_29 ?_
      exact gReti S hr hlk C (Option.some.inj hm) rfl dX2_placeOf_32
    · rw [if_neg c1] at hm
      refine lv_aload_n S.1 S.2.1 dX2_placeOf_10 rfl (lv_at hl 0 rfl) ?_
      refine lv_iload_n S.1 S.2.1 dX2_placeOf_11 rfl (lv_at hl 3 rfl) ?_
      refine lv_iload_n S.1 S.2.1 dX2_placeOf_12 rfl (lv_at hl 1 rfl) ?_
      refine lv_iload_n S.1 S.2.1 dX2_placeOf_13 rfl (lv_at hl 2 rfl) ?_
      obtain ⟨r2, hcr2, hm⟩ := bd_ok hm
      refine gC_i C (gRV (k := x0) (ci := 2) (r := (RX2, TX2, 5)) (As := [.int x3, .int x1, .int x2]) (rest := []) 3 S C (c_X2_isAhead l D cy ad M x0 hL0 x3 x1 x2 r2 hcr2) gX2_placeOf_X2_isAhead rfl (by decide +kernel) (by decide) hL0.1 rfl rfl rfl hl.1 rfl (Nat.le_of_ble_eq_true rfl) dX2_placeOf_14) (fun H locs C => ?_)
      refine lv_if_ne (tgt := 22) S.1 S.2.1 dX2_placeOf_17 (by decide) (fun c3 => ?_) (fun c3 => ?_)
      · rw [if_neg c3] at hm
        obtain ⟨y4, ey4, hm⟩ := nmd_ok hm
        refine lv_iinc (v := y4) (lv' := [(3, .int y4), (0, .ref (ad x0)), (1, .int x1), (2, .int x2)]) S.1 S.2.1 dX2_placeOf_22 hl (k := 3) rfl (by rw [ey4]; rfl) (by decide) rfl (fun ls hl => ?_)
        refine lv_goto (tgt := 2) S.1 S.2.1 dX2_placeOf_25 (by decide) ?_
        exact ih _ _ C x0 hL0 x1 x2 y4 ls (lv_sub hl [1, 2, 3, 0] rfl) hm
      · rw [if_pos c3] at hm
        refine lv_iload_n S.1 S.2.1 dX2_placeOf_20 rfl (lv_at hl 3 rfl) ?_
        exact gReti S hr hlk C (Option.some.inj hm) rfl dX2_placeOf_21
set_option maxHeartbeats 4000000 in
set_option maxRecDepth 100000 in
theorem c_X2_placeOf (l : Launch) (D : va_G) (cy : gCy) (ad : Nat → Nat) (M : gMem) (x0 : Nat) (hL0 : isL x0) (x1 : Int32) (x2 : Int32) (r0 : Int32) (hm : mX2_placeOf M x0 x1 x2 = some r0) : Met l yX2_placeOf wsX2_placeOf (gR 2 43) (va_Pc [.ref (ad x0), .int x1, .int x2] (gP shC D cy ad M)) (gQi shC D cy ad r0 M) 0 0 (gA shC ad) := by
  refine gEnter (cc := cX2_placeOf) (maxL := 4) (ret := (some .int)) (by decide) rfl (Nat.le_of_ble_eq_true rfl) ?_
  intro p e s m below meth c ls S hr hlk C hl
  have S : CallFix p m c cX2_placeOf 4 s _ wsX2_placeOf RX2 := S
  have hl : lv_has ls 4 [(0, .ref (ad x0)), (1, .int x1), (2, .int x2)] := hl
  rw [mX2_placeOf] at hm
  refine lv_iconst (v := (0 : Int32)) S.1 S.2.1 dX2_placeOf_0 (by decide) ?_
  refine lv_istore_n (lv' := [(3, .int (0 : Int32)), (0, .ref (ad x0)), (1, .int x1), (2, .int x2)]) S.1 S.2.1 dX2_placeOf_1 rfl hl (by decide) rfl (fun ls hl => ?_)
  exact wX2_placeOf_2 S hr hlk FU _ _ C x0 hL0 x1 x2 (0 : Int32) ls (lv_sub hl [1, 2, 3, 0] rfl) hm
def mX2_hasBeginning (M : gMem) (x0 : Nat) (x1 : Int32) (x2 : Int32) : Option Int32 := (mX2_placeOf M x0 x1 x2).bind fun r1 => (mX2_isAt M x0 r1 x1 x2).bind fun r2 => ck (tv r2) (some r2)
set_option maxHeartbeats 4000000 in
set_option maxRecDepth 100000 in
theorem c_X2_hasBeginning (l : Launch) (D : va_G) (cy : gCy) (ad : Nat → Nat) (M : gMem) (x0 : Nat) (hL0 : isL x0) (x1 : Int32) (x2 : Int32) (r0 : Int32) (hm : mX2_hasBeginning M x0 x1 x2 = some r0) : Met l yX2_hasBeginning wsX2_hasBeginning (gR 3 66) (va_Pc [.ref (ad x0), .int x1, .int x2] (gP shC D cy ad M)) (gQi shC D cy ad r0 M) 0 0 (gA shC ad) := by
  refine gEnter (cc := cX2_hasBeginning) (maxL := 3) (ret := (some .boolean)) (by decide) rfl (Nat.le_of_ble_eq_true rfl) ?_
  intro p e s m below meth c ls S hr hlk C hl
  have S : CallFix p m c cX2_hasBeginning 3 s _ wsX2_hasBeginning RX2 := S
  have hl : lv_has ls 3 [(0, .ref (ad x0)), (1, .int x1), (2, .int x2)] := hl
  rw [mX2_hasBeginning] at hm
  refine lv_aload_n S.1 S.2.1 dX2_hasBeginning_0 rfl (lv_at hl 0 rfl) ?_
  refine lv_aload_n S.1 S.2.1 dX2_hasBeginning_1 rfl (lv_at hl 0 rfl) ?_
  refine lv_iload_n S.1 S.2.1 dX2_hasBeginning_2 rfl (lv_at hl 1 rfl) ?_
  refine lv_iload_n S.1 S.2.1 dX2_hasBeginning_3 rfl (lv_at hl 2 rfl) ?_
  obtain ⟨r1, hcr1, hm⟩ := bd_ok hm
  refine gC_i C (gRV (k := x0) (ci := 2) (r := (RX2, TX2, 5)) (As := [.int x1, .int x2]) (rest := [.ref (ad x0)]) 2 S C (c_X2_placeOf l D cy ad M x0 hL0 x1 x2 r1 hcr1) gX2_hasBeginning_X2_placeOf rfl (by decide +kernel) (by decide) hL0.1 rfl rfl rfl hl.1 rfl (Nat.le_of_ble_eq_true rfl) dX2_hasBeginning_4) (fun H locs C => ?_)
  refine lv_iload_n S.1 S.2.1 dX2_hasBeginning_7 rfl (lv_at hl 1 rfl) ?_
  refine lv_iload_n S.1 S.2.1 dX2_hasBeginning_8 rfl (lv_at hl 2 rfl) ?_
  obtain ⟨r2, hcr2, hm⟩ := bd_ok hm
  refine gC_i C (gRV (k := x0) (ci := 2) (r := (RX2, TX2, 5)) (As := [.int r1, .int x1, .int x2]) (rest := []) 3 S C (c_X2_isAt l D cy ad M x0 hL0 r1 x1 x2 r2 hcr2) gX2_hasBeginning_X2_isAt rfl (by decide +kernel) (by decide) hL0.1 rfl rfl rfl hl.1 rfl (Nat.le_of_ble_eq_true rfl) dX2_hasBeginning_9) (fun H locs C => ?_)
  obtain ⟨hz, hm⟩ := ck_ok hm
  exact gRetz S hr hlk C (tv_ok hz) (Option.some.inj hm) rfl dX2_hasBeginning_12
def mX2_hasLine (M : gMem) (x0 : Nat) (x1 : Int32) (x2 : Int32) (x3 : Int32) : Option Int32 := (mX2_placeOf M x0 x1 x2).bind fun r1 => (mX2_isAt M x0 r1 x1 x2).bind fun r2 => if r2 = 0 then (some (0 : Int32)) else (ck (inb r1 (lnOf x0)) <| if (M.1 (x0 + 3) r1.toNatClampNeg) = x3 then (some (1 : Int32)) else (some (0 : Int32)))
set_option maxHeartbeats 4000000 in
set_option maxRecDepth 100000 in
theorem c_X2_hasLine (l : Launch) (D : va_G) (cy : gCy) (ad : Nat → Nat) (M : gMem) (x0 : Nat) (hL0 : isL x0) (x1 : Int32) (x2 : Int32) (x3 : Int32) (r0 : Int32) (hm : mX2_hasLine M x0 x1 x2 x3 = some r0) : Met l yX2_hasLine wsX2_hasLine (gR 3 66) (va_Pc [.ref (ad x0), .int x1, .int x2, .int x3] (gP shC D cy ad M)) (gQi shC D cy ad r0 M) 0 0 (gA shC ad) := by
  refine gEnter (cc := cX2_hasLine) (maxL := 5) (ret := (some .boolean)) (by decide) rfl (Nat.le_of_ble_eq_true rfl) ?_
  intro p e s m below meth c ls S hr hlk C hl
  have S : CallFix p m c cX2_hasLine 5 s _ wsX2_hasLine RX2 := S
  have hl : lv_has ls 5 [(0, .ref (ad x0)), (1, .int x1), (2, .int x2), (3, .int x3)] := hl
  rw [mX2_hasLine] at hm
  refine lv_aload_n S.1 S.2.1 dX2_hasLine_0 rfl (lv_at hl 0 rfl) ?_
  refine lv_iload_n S.1 S.2.1 dX2_hasLine_1 rfl (lv_at hl 1 rfl) ?_
  refine lv_iload_n S.1 S.2.1 dX2_hasLine_2 rfl (lv_at hl 2 rfl) ?_
  obtain ⟨r1, hcr1, hm⟩ := bd_ok hm
  refine gC_i C (gRV (k := x0) (ci := 2) (r := (RX2, TX2, 5)) (As := [.int x1, .int x2]) (rest := []) 2 S C (c_X2_placeOf l D cy ad M x0 hL0 x1 x2 r1 hcr1) gX2_hasLine_X2_placeOf rfl (by decide +kernel) (by decide) hL0.1 rfl rfl rfl hl.1 rfl (Nat.le_of_ble_eq_true rfl) dX2_hasLine_3) (fun H locs C => ?_)
  refine lv_istore (lv' := [(4, .int r1), (0, .ref (ad x0)), (1, .int x1), (2, .int x2), (3, .int x3)]) S.1 S.2.1 dX2_hasLine_6 hl (by decide) rfl (fun ls hl => ?_)
  refine lv_aload_n S.1 S.2.1 dX2_hasLine_8 rfl (lv_at hl 1 rfl) ?_
  refine lv_iload S.1 S.2.1 dX2_hasLine_9 (lv_at hl 0 rfl) ?_
  refine lv_iload_n S.1 S.2.1 dX2_hasLine_11 rfl (lv_at hl 2 rfl) ?_
  refine lv_iload_n S.1 S.2.1 dX2_hasLine_12 rfl (lv_at hl 3 rfl) ?_
  obtain ⟨r2, hcr2, hm⟩ := bd_ok hm
  refine gC_i C (gRV (k := x0) (ci := 2) (r := (RX2, TX2, 5)) (As := [.int r1, .int x1, .int x2]) (rest := []) 3 S C (c_X2_isAt l D cy ad M x0 hL0 r1 x1 x2 r2 hcr2) gX2_hasLine_X2_isAt rfl (by decide +kernel) (by decide) hL0.1 rfl rfl rfl hl.1 rfl (Nat.le_of_ble_eq_true rfl) dX2_hasLine_13) (fun H locs C => ?_)
  refine lv_if_eq (tgt := 34) S.1 S.2.1 dX2_hasLine_16 (by decide) (fun c3 => ?_) (fun c3 => ?_)
  · rw [if_pos c3] at hm
    refine lv_iconst (v := (0 : Int32)) S.1 S.2.1 dX2_hasLine_34 (by decide) ?_
    exact gRetz S hr hlk C rfl (Option.some.inj hm) rfl dX2_hasLine_35
  · rw [if_neg c3] at hm
    refine lv_aload_n S.1 S.2.1 dX2_hasLine_19 rfl (lv_at hl 1 rfl) ?_
    refine g_get (k := x0) (ci := 2) (f := 2) (v := .ref (ad (x0 + 3)))  S C kiX2_hasLine_X2 kfX2_hasLine_28 rfl (by decide) hL0.1 rfl rfl dX2_hasLine_20 ?_
    refine lv_iload S.1 S.2.1 dX2_hasLine_23 (lv_at hl 0 rfl) ?_
    obtain ⟨h4, hm⟩ := ck_ok hm
    refine g_iald S C (k := (x0 + 3)) (hL0).2.2.2 h4 dX2_hasLine_25 ?_
    refine lv_iload_n S.1 S.2.1 dX2_hasLine_26 rfl (lv_at hl 4 rfl) ?_
    refine lv_icmp_ne (tgt := 34) S.1 S.2.1 dX2_hasLine_27 (by decide) (fun c5 => ?_) (fun c5 => ?_)
    · rw [if_neg c5] at hm
      refine lv_iconst (v := (0 : Int32)) S.1 S.2.1 dX2_hasLine_34 (by decide) ?_
      exact gRetz S hr hlk C rfl (Option.some.inj hm) rfl dX2_hasLine_35
    · rw [if_pos c5] at hm
      refine lv_iconst (v := (1 : Int32)) S.1 S.2.1 dX2_hasLine_30 (by decide) ?_
      refine lv_goto (tgt := 35) S.1 S.2.1 dX2_hasLine_31 (by decide) ?_
      exact gRetz S hr hlk C rfl (Option.some.inj hm) rfl dX2_hasLine_35
def mX2_endOf_7 : Nat → gMem → Nat → Int32 → Int32 → Int32 → Option Int32
  | 0, _, _, _, _, _ => none
  | n + 1, M, x0, x2, x3, x4 => if (M.1 x0 4) ≤ x4 then (some (M.1 x0 4)) else (ck (inb x4 (lnOf x0)) <| (mX7_begins (M.1 (x0 + 1) x4.toNatClampNeg) x2 x3).bind fun r3 => if r3 = 0 then (some x4) else (nmd (x4 + (1 : Int32)) fun y5 => mX2_endOf_7 n M x0 x2 x3 y5))
def mX2_endOf (M : gMem) (x0 : Nat) (x1 : Int32) (x2 : Int32) (x3 : Int32) : Option Int32 := nmd (if x1 < (0 : Int32) then (0 : Int32) else x1) fun y1 => mX2_endOf_7 FU M x0 x2 x3 y1
set_option maxHeartbeats 4000000 in
set_option maxRecDepth 100000 in
theorem wX2_endOf_7 {p : Program} {l : Launch} {e : Env} {s : State} {m : MethodId} {args : Array Value} {below : List Frame} {meth : Method} {c : Code} {D : va_G} {cy : gCy} {ad : Nat → Nat} {M : gMem} {r0 : Int32} (S : CallFix p m c cX2_endOf 5 s args wsX2_endOf RX2) (hr : meth.sig.returnType = (some .int)) (hlk : meth.locks = false) : ∀ (n : Nat), ∀ (H : Heap) (locs : List Loc), gW shC D cy ad s s.heap M H locs → ∀ (x0 : Nat) (hL0 : isL x0) (x2 : Int32) (x3 : Int32) (x4 : Int32), ∀ (ls : Array Slot), lv_has ls 5 [(0, .ref (ad x0)), (2, .int x2), (3, .int x3), (4, .int x4)] → mX2_endOf_7 n M x0 x2 x3 x4 = some r0 → W p l e (gR 3 65) s m args below meth c H locs 0 0 (MQ below (gQi shC D cy ad r0 M) args s 0 0 (gA shC ad)) (F0 m 7 ls []) := by
  intro n
  induction n with
  | zero => intro H locs C x0 hL0 x2 x3 x4 ls hl hm; exact absurd hm (by simp [mX2_endOf_7])
  | succ n ih =>
    intro H locs C x0 hL0 x2 x3 x4 ls hl hm
    rw [mX2_endOf_7] at hm
    refine lv_iload S.1 S.2.1 dX2_endOf_7 (lv_at hl 3 rfl) ?_
    refine lv_aload_n S.1 S.2.1 dX2_endOf_9 rfl (lv_at hl 0 rfl) ?_
    refine g_get (k := x0) (ci := 2) (f := 4) (v := .int (M.1 x0 4))  S C kiX2_endOf_X2 kfX2_endOf_39 rfl (by decide) hL0.1 rfl rfl dX2_endOf_10 ?_
    refine lv_icmp_ge (tgt := 40) S.1 S.2.1 dX2_endOf_13 (by decide) (fun c1 => ?_) (fun c1 => ?_)
    · rw [if_pos c1] at hm
      refine lv_aload_n S.1 S.2.1 dX2_endOf_40 rfl (lv_at hl 0 rfl) ?_
      refine g_get (k := x0) (ci := 2) (f := 4) (v := .int (M.1 x0 4))  S C kiX2_endOf_X2 kfX2_endOf_39 rfl (by decide) hL0.1 rfl rfl dX2_endOf_41 ?_
      exact gReti S hr hlk C (Option.some.inj hm) rfl dX2_endOf_44
    · rw [if_neg c1] at hm
      refine lv_aload_n S.1 S.2.1 dX2_endOf_16 rfl (lv_at hl 0 rfl) ?_
      refine g_get (k := x0) (ci := 2) (f := 0) (v := .ref (ad (x0 + 1)))  S C kiX2_endOf_X2 kfX2_endOf_21 rfl (by decide) hL0.1 rfl rfl dX2_endOf_17 ?_
      refine lv_iload S.1 S.2.1 dX2_endOf_20 (lv_at hl 3 rfl) ?_
      obtain ⟨h2, hm⟩ := ck_ok hm
      refine g_iald S C (k := (x0 + 1)) (hL0).2.1 h2 dX2_endOf_22 ?_
      refine lv_iload_n S.1 S.2.1 dX2_endOf_23 rfl (lv_at hl 1 rfl) ?_
      refine lv_iload_n S.1 S.2.1 dX2_endOf_24 rfl (lv_at hl 2 rfl) ?_
      obtain ⟨r3, hcr3, hm⟩ := bd_ok hm
      refine gC_i C (gRSN (host := "PrefixLeader") (As := [.int (M.1 (x0 + 1) x4.toNatClampNeg), .int x2, .int x3]) (rest := []) 3 S C (c_X7_begins l D cy ad M (M.1 (x0 + 1) x4.toNatClampNeg) x2 x3 r3 hcr3) gX2_endOf_X7_begins_n52 rfl (by decide +kernel) knX2_endOf_X7_beginsi knX2_endOf_X7_beginss (by decide +kernel) (by decide) rfl hl.1 rfl (Nat.le_of_ble_eq_true rfl) dX2_endOf_25) (fun H locs C => ?_)
      refine lv_if_ne (tgt := 34) S.1 S.2.1 dX2_endOf_28 (by decide) (fun c4 => ?_) (fun c4 => ?_)
      · rw [if_neg c4] at hm
        obtain ⟨y5, ey5, hm⟩ := nmd_ok hm
        refine lv_iinc (v := y5) (lv' := [(4, .int y5), (0, .ref (ad x0)), (2, .int x2), (3, .int x3)]) S.1 S.2.1 dX2_endOf_34 hl (k := 3) rfl (by rw [ey5]; rfl) (by decide) rfl (fun ls hl => ?_)
        refine lv_goto (tgt := 7) S.1 S.2.1 dX2_endOf_37 (by decide) ?_
        exact ih _ _ C x0 hL0 x2 x3 y5 ls (lv_sub hl [1, 2, 3, 0] rfl) hm
      · rw [if_pos c4] at hm
        refine lv_iload S.1 S.2.1 dX2_endOf_31 (lv_at hl 3 rfl) ?_
        exact gReti S hr hlk C (Option.some.inj hm) rfl dX2_endOf_33
set_option maxHeartbeats 4000000 in
set_option maxRecDepth 100000 in
theorem c_X2_endOf (l : Launch) (D : va_G) (cy : gCy) (ad : Nat → Nat) (M : gMem) (x0 : Nat) (hL0 : isL x0) (x1 : Int32) (x2 : Int32) (x3 : Int32) (r0 : Int32) (hm : mX2_endOf M x0 x1 x2 x3 = some r0) : Met l yX2_endOf wsX2_endOf (gR 3 65) (va_Pc [.ref (ad x0), .int x1, .int x2, .int x3] (gP shC D cy ad M)) (gQi shC D cy ad r0 M) 0 0 (gA shC ad) := by
  refine gEnter (cc := cX2_endOf) (maxL := 5) (ret := (some .int)) (by decide) rfl (Nat.le_of_ble_eq_true rfl) ?_
  intro p e s m below meth c ls S hr hlk C hl
  have S : CallFix p m c cX2_endOf 5 s _ wsX2_endOf RX2 := S
  have hl : lv_has ls 5 [(0, .ref (ad x0)), (1, .int x1), (2, .int x2), (3, .int x3)] := hl
  rw [mX2_endOf] at hm
  refine lv_iload_n S.1 S.2.1 dX2_endOf_0 rfl (lv_at hl 1 rfl) ?_
  refine lv_iconst (v := (0 : Int32)) S.1 S.2.1 dX2_endOf_1 (by decide) ?_
  refine va_mmax S.1 S.2.1 (S.2.2.1.trans hl.1.symm) S.2.2.2.1 (S.2.2.2.2 _ kmX2_endOf_9l) (S.2.2.2.2 _ kmX2_endOf_9s) (S.2.2.2.2 _ kmX2_endOf_9i) (S.2.2.2.2 _ kmX2_endOf_9c) (rest := []) (Nat.le_of_ble_eq_true rfl) (Nat.le_of_ble_eq_true rfl) (Nat.le_refl _) (Nat.le_refl _) dX2_endOf_2 ?_
  obtain ⟨y1, ey1, hm⟩ := nmd_ok hm
  refine gNmI ey1 ?_
  refine lv_istore (lv' := [(4, .int y1), (0, .ref (ad x0)), (1, .int x1), (2, .int x2), (3, .int x3)]) S.1 S.2.1 dX2_endOf_5 hl (by decide) rfl (fun ls hl => ?_)
  exact wX2_endOf_7 S hr hlk FU _ _ C x0 hL0 x2 x3 y1 ls (lv_sub hl [1, 3, 4, 0] rfl) hm
def mX2_lastHolder_11 : Nat → gMem → Nat → Int32 → Int32 → Option Int32
  | 0, _, _, _, _ => none
  | n + 1, M, x0, x2, x3 => if x3 < 0 then (some (-1 : Int32)) else (ck (inb x3 (lnOf x0)) <| ck (inb x3 (lnOf x0)) <| (mX7_begins x2 (M.1 (x0 + 1) x3.toNatClampNeg) (M.1 (x0 + 2) x3.toNatClampNeg)).bind fun r4 => if r4 = 0 then (nmd (x3 + (-1 : Int32)) fun y6 => mX2_lastHolder_11 n M x0 x2 y6) else (some x3))
def mX2_lastHolder (M : gMem) (x0 : Nat) (x1 : Int32) (x2 : Int32) : Option Int32 := nmd ((if (M.1 x0 4) < x1 then (M.1 x0 4) else x1) - (1 : Int32)) fun y1 => mX2_lastHolder_11 FU M x0 x2 y1
set_option maxHeartbeats 4000000 in
set_option maxRecDepth 100000 in
theorem wX2_lastHolder_11 {p : Program} {l : Launch} {e : Env} {s : State} {m : MethodId} {args : Array Value} {below : List Frame} {meth : Method} {c : Code} {D : va_G} {cy : gCy} {ad : Nat → Nat} {M : gMem} {r0 : Int32} (S : CallFix p m c cX2_lastHolder 4 s args wsX2_lastHolder RX2) (hr : meth.sig.returnType = (some .int)) (hlk : meth.locks = false) : ∀ (n : Nat), ∀ (H : Heap) (locs : List Loc), gW shC D cy ad s s.heap M H locs → ∀ (x0 : Nat) (hL0 : isL x0) (x2 : Int32) (x3 : Int32), ∀ (ls : Array Slot), lv_has ls 4 [(0, .ref (ad x0)), (2, .int x2), (3, .int x3)] → mX2_lastHolder_11 n M x0 x2 x3 = some r0 → W p l e (gR 3 65) s m args below meth c H locs 0 0 (MQ below (gQi shC D cy ad r0 M) args s 0 0 (gA shC ad)) (F0 m 11 ls []) := by
  intro n
  induction n with
  | zero => intro H locs C x0 hL0 x2 x3 ls hl hm; exact absurd hm (by simp [mX2_lastHolder_11])
  | succ n ih =>
    intro H locs C x0 hL0 x2 x3 ls hl hm
    rw [mX2_lastHolder_11] at hm
    refine lv_iload_n S.1 S.2.1 dX2_lastHolder_11 rfl (lv_at hl 2 rfl) ?_
    refine lv_if_lt (tgt := 42) S.1 S.2.1 dX2_lastHolder_12 (by decide) (fun c1 => ?_) (fun c1 => ?_)
    · rw [if_pos c1] at hm
      refine lv_iconst (v := (-1 : Int32)) S.1 S.2.1 dX2_lastHolder_42 (by decide) ?_
      exact gReti S hr hlk C (Option.some.inj hm) rfl dX2_lastHolder_43
    · rw [if_neg c1] at hm
      refine lv_iload_n S.1 S.2.1 dX2_lastHolder_15 rfl (lv_at hl 1 rfl) ?_
      refine lv_aload_n S.1 S.2.1 dX2_lastHolder_16 rfl (lv_at hl 0 rfl) ?_
      refine g_get (k := x0) (ci := 2) (f := 0) (v := .ref (ad (x0 + 1)))  S C kiX2_lastHolder_X2 kfX2_lastHolder_21 rfl (by decide) hL0.1 rfl rfl dX2_lastHolder_17 ?_
      refine lv_iload_n S.1 S.2.1 dX2_lastHolder_20 rfl (lv_at hl 2 rfl) ?_
      obtain ⟨h2, hm⟩ := ck_ok hm
      refine g_iald S C (k := (x0 + 1)) (hL0).2.1 h2 dX2_lastHolder_21 ?_
      refine lv_aload_n S.1 S.2.1 dX2_lastHolder_22 rfl (lv_at hl 0 rfl) ?_
      refine g_get (k := x0) (ci := 2) (f := 1) (v := .ref (ad (x0 + 2)))  S C kiX2_lastHolder_X2 kfX2_lastHolder_25 rfl (by decide) hL0.1 rfl rfl dX2_lastHolder_23 ?_
      refine lv_iload_n S.1 S.2.1 dX2_lastHolder_26 rfl (lv_at hl 2 rfl) ?_
      obtain ⟨h3, hm⟩ := ck_ok hm
      refine g_iald S C (k := (x0 + 2)) (hL0).2.2.1 h3 dX2_lastHolder_27 ?_
      obtain ⟨r4, hcr4, hm⟩ := bd_ok hm
      refine gC_i C (gRSN (host := "PrefixLeader") (As := [.int x2, .int (M.1 (x0 + 1) x3.toNatClampNeg), .int (M.1 (x0 + 2) x3.toNatClampNeg)]) (rest := []) 3 S C (c_X7_begins l D cy ad M x2 (M.1 (x0 + 1) x3.toNatClampNeg) (M.1 (x0 + 2) x3.toNatClampNeg) r4 hcr4) gX2_lastHolder_X7_begins_n52 rfl (by decide +kernel) knX2_lastHolder_X7_beginsi knX2_lastHolder_X7_beginss (by decide +kernel) (by decide) rfl hl.1 rfl (Nat.le_of_ble_eq_true rfl) dX2_lastHolder_28) (fun H locs C => ?_)
      refine lv_if_eq (tgt := 36) S.1 S.2.1 dX2_lastHolder_31 (by decide) (fun c5 => ?_) (fun c5 => ?_)
      · rw [if_pos c5] at hm
        obtain ⟨y6, ey6, hm⟩ := nmd_ok hm
        refine lv_iinc (v := y6) (lv' := [(3, .int y6), (0, .ref (ad x0)), (2, .int x2)]) S.1 S.2.1 dX2_lastHolder_36 hl (k := 2) rfl (by rw [ey6]; rfl) (by decide) rfl (fun ls hl => ?_)
        refine lv_goto (tgt := 11) S.1 S.2.1 dX2_lastHolder_39 (by decide) ?_
        exact ih _ _ C x0 hL0 x2 y6 ls (lv_sub hl [1, 2, 0] rfl) hm
      · rw [if_neg c5] at hm
        refine lv_iload_n S.1 S.2.1 dX2_lastHolder_34 rfl (lv_at hl 2 rfl) ?_
        exact gReti S hr hlk C (Option.some.inj hm) rfl dX2_lastHolder_35
set_option maxHeartbeats 4000000 in
set_option maxRecDepth 100000 in
theorem c_X2_lastHolder (l : Launch) (D : va_G) (cy : gCy) (ad : Nat → Nat) (M : gMem) (x0 : Nat) (hL0 : isL x0) (x1 : Int32) (x2 : Int32) (r0 : Int32) (hm : mX2_lastHolder M x0 x1 x2 = some r0) : Met l yX2_lastHolder wsX2_lastHolder (gR 3 65) (va_Pc [.ref (ad x0), .int x1, .int x2] (gP shC D cy ad M)) (gQi shC D cy ad r0 M) 0 0 (gA shC ad) := by
  refine gEnter (cc := cX2_lastHolder) (maxL := 4) (ret := (some .int)) (by decide) rfl (Nat.le_of_ble_eq_true rfl) ?_
  intro p e s m below meth c ls S hr hlk C hl
  have S : CallFix p m c cX2_lastHolder 4 s _ wsX2_lastHolder RX2 := S
  have hl : lv_has ls 4 [(0, .ref (ad x0)), (1, .int x1), (2, .int x2)] := hl
  rw [mX2_lastHolder] at hm
  refine lv_iload_n S.1 S.2.1 dX2_lastHolder_0 rfl (lv_at hl 1 rfl) ?_
  refine lv_aload_n S.1 S.2.1 dX2_lastHolder_1 rfl (lv_at hl 0 rfl) ?_
  refine g_get (k := x0) (ci := 2) (f := 4) (v := .int (M.1 x0 4))  S C kiX2_lastHolder_X2 kfX2_lastHolder_39 rfl (by decide) hL0.1 rfl rfl dX2_lastHolder_2 ?_
  refine va_mmin S.1 S.2.1 (S.2.2.1.trans hl.1.symm) S.2.2.2.1 (S.2.2.2.2 _ kmX2_lastHolder_55l) (S.2.2.2.2 _ kmX2_lastHolder_55s) (S.2.2.2.2 _ kmX2_lastHolder_55i) (S.2.2.2.2 _ kmX2_lastHolder_55c) (rest := []) (Nat.le_of_ble_eq_true rfl) (Nat.le_of_ble_eq_true rfl) (Nat.le_refl _) (Nat.le_refl _) dX2_lastHolder_5 ?_
  refine lv_iconst (v := (1 : Int32)) S.1 S.2.1 dX2_lastHolder_8 (by decide) ?_
  refine lv_isub S.1 S.2.1 dX2_lastHolder_9 ?_
  obtain ⟨y1, ey1, hm⟩ := nmd_ok hm
  refine gNmI ey1 ?_
  refine lv_istore_n (lv' := [(3, .int y1), (0, .ref (ad x0)), (1, .int x1), (2, .int x2)]) S.1 S.2.1 dX2_lastHolder_10 rfl hl (by decide) rfl (fun ls hl => ?_)
  exact wX2_lastHolder_11 S hr hlk FU _ _ C x0 hL0 x2 y1 ls (lv_sub hl [1, 3, 0] rfl) hm
def mX2_goalAmong (M : gMem) (x0 : Nat) (x1 : Int32) (x2 : Int32) : Option Int32 := (mX2_lastHolder M x0 x1 x2).bind fun r1 => if r1 = (-1 : Int32) then (some (16 : Int32)) else (ck (inb r1 (lnOf x0)) <| some (M.1 (x0 + 3) r1.toNatClampNeg))
set_option maxHeartbeats 4000000 in
set_option maxRecDepth 100000 in
theorem c_X2_goalAmong (l : Launch) (D : va_G) (cy : gCy) (ad : Nat → Nat) (M : gMem) (x0 : Nat) (hL0 : isL x0) (x1 : Int32) (x2 : Int32) (r0 : Int32) (hm : mX2_goalAmong M x0 x1 x2 = some r0) : Met l yX2_goalAmong wsX2_goalAmong (gR 4 88) (va_Pc [.ref (ad x0), .int x1, .int x2] (gP shC D cy ad M)) (gQi shC D cy ad r0 M) 0 0 (gA shC ad) := by
  refine gEnter (cc := cX2_goalAmong) (maxL := 4) (ret := (some .int)) (by decide) rfl (Nat.le_of_ble_eq_true rfl) ?_
  intro p e s m below meth c ls S hr hlk C hl
  have S : CallFix p m c cX2_goalAmong 4 s _ wsX2_goalAmong RX2 := S
  have hl : lv_has ls 4 [(0, .ref (ad x0)), (1, .int x1), (2, .int x2)] := hl
  rw [mX2_goalAmong] at hm
  refine lv_aload_n S.1 S.2.1 dX2_goalAmong_0 rfl (lv_at hl 0 rfl) ?_
  refine lv_iload_n S.1 S.2.1 dX2_goalAmong_1 rfl (lv_at hl 1 rfl) ?_
  refine lv_iload_n S.1 S.2.1 dX2_goalAmong_2 rfl (lv_at hl 2 rfl) ?_
  obtain ⟨r1, hcr1, hm⟩ := bd_ok hm
  refine gC_i C (gRV (k := x0) (ci := 2) (r := (RX2, TX2, 5)) (As := [.int x1, .int x2]) (rest := []) 2 S C (c_X2_lastHolder l D cy ad M x0 hL0 x1 x2 r1 hcr1) gX2_goalAmong_X2_lastHolder rfl (by decide +kernel) (by decide) hL0.1 rfl rfl rfl hl.1 rfl (Nat.le_of_ble_eq_true rfl) dX2_goalAmong_3) (fun H locs C => ?_)
  refine lv_istore_n (lv' := [(3, .int r1), (0, .ref (ad x0)), (1, .int x1), (2, .int x2)]) S.1 S.2.1 dX2_goalAmong_6 rfl hl (by decide) rfl (fun ls hl => ?_)
  refine lv_iload_n S.1 S.2.1 dX2_goalAmong_7 rfl (lv_at hl 0 rfl) ?_
  refine lv_iconst (v := (-1 : Int32)) S.1 S.2.1 dX2_goalAmong_8 (by decide) ?_
  refine lv_icmp_ne (tgt := 17) S.1 S.2.1 dX2_goalAmong_9 (by decide) (fun c2 => ?_) (fun c2 => ?_)
  · rw [if_neg c2] at hm
    refine lv_aload_n S.1 S.2.1 dX2_goalAmong_17 rfl (lv_at hl 1 rfl) ?_
    refine g_get (k := x0) (ci := 2) (f := 2) (v := .ref (ad (x0 + 3)))  S C kiX2_goalAmong_X2 kfX2_goalAmong_28 rfl (by decide) hL0.1 rfl rfl dX2_goalAmong_18 ?_
    refine lv_iload_n S.1 S.2.1 dX2_goalAmong_21 rfl (lv_at hl 0 rfl) ?_
    obtain ⟨h3, hm⟩ := ck_ok hm
    refine g_iald S C (k := (x0 + 3)) (hL0).2.2.2 h3 dX2_goalAmong_22 ?_
    exact gReti S hr hlk C (Option.some.inj hm) rfl dX2_goalAmong_23
  · rw [if_pos c2] at hm
    refine lv_bipush (v := (16 : Int32)) S.1 S.2.1 dX2_goalAmong_12 (by decide) ?_
    refine lv_goto (tgt := 23) S.1 S.2.1 dX2_goalAmong_14 (by decide) ?_
    exact gReti S hr hlk C (Option.some.inj hm) rfl dX2_goalAmong_23
def mX2_clear (M : gMem) (x0 : Nat) : Option gMem := nmd (sI M x0 4 (0 : Int32)) fun M1 => some M1
set_option maxHeartbeats 4000000 in
set_option maxRecDepth 100000 in
theorem c_X2_clear (l : Launch) (D : va_G) (cy : gCy) (ad : Nat → Nat) (M : gMem) (x0 : Nat) (hL0 : isL x0) (r0 : gMem) (hm : mX2_clear M x0 = some r0) : Met l yX2_clear wsX2_clear (gR 0 0) (va_Pc [.ref (ad x0)] (gP shC D cy ad M)) (gQv shC D cy ad r0) 0 0 (gA shC ad) := by
  refine gEnter (cc := cX2_clear) (maxL := 1) (ret := none) (by decide) rfl (Nat.le_of_ble_eq_true rfl) ?_
  intro p e s m below meth c ls S hr hlk C hl
  have S : CallFix p m c cX2_clear 1 s _ wsX2_clear RX2 := S
  have hl : lv_has ls 1 [(0, .ref (ad x0))] := hl
  rw [mX2_clear] at hm
  refine lv_aload_n S.1 S.2.1 dX2_clear_0 rfl (lv_at hl 0 rfl) ?_
  refine lv_iconst (v := (0 : Int32)) S.1 S.2.1 dX2_clear_1 (by decide) ?_
  obtain ⟨M1, eM1, hm⟩ := nmd_ok hm
  refine g_put (M' := (sI M x0 4 (0 : Int32))) (k := x0) (ci := 2) (f := 4) (v := .int (0 : Int32)) (ty := .int) S C kiX2_clear_X2 tyX2 tyX2_ok nmX2 kfX2_clear_39 rfl (by decide) rfl (by decide +kernel) rfl rfl hL0.1 rfl (Nat.le_of_ble_eq_true rfl) (by rw [sI_at]; rfl) sI_off dX2_clear_2 (fun H locs C => ?_)
  rw [← eM1] at C
  exact gRetv S hr hlk C (Option.some.inj hm) dX2_clear_5
def mX2_append (M : gMem) (x0 : Nat) (x1 : Int32) (x2 : Int32) (x3 : Int32) : Option gMem := if (M.1 x0 3) ≤ (M.1 x0 4) then (some M) else (ck (inb (M.1 x0 4) (lnOf x0)) <| nmd (sI M (x0 + 1) (M.1 x0 4).toNatClampNeg x1) fun M3 => ck (inb (M3.1 x0 4) (lnOf x0)) <| nmd (sI M3 (x0 + 2) (M3.1 x0 4).toNatClampNeg x2) fun M5 => ck (inb (M5.1 x0 4) (lnOf x0)) <| nmd (sI M5 (x0 + 3) (M5.1 x0 4).toNatClampNeg x3) fun M7 => nmd (sI M7 x0 4 ((M7.1 x0 4) + (1 : Int32))) fun M8 => some M8)
set_option maxHeartbeats 4000000 in
set_option maxRecDepth 100000 in
theorem c_X2_append (l : Launch) (D : va_G) (cy : gCy) (ad : Nat → Nat) (M : gMem) (x0 : Nat) (hL0 : isL x0) (x1 : Int32) (x2 : Int32) (x3 : Int32) (r0 : gMem) (hm : mX2_append M x0 x1 x2 x3 = some r0) : Met l yX2_append wsX2_append (gR 0 0) (va_Pc [.ref (ad x0), .int x1, .int x2, .int x3] (gP shC D cy ad M)) (gQv shC D cy ad r0) 0 0 (gA shC ad) := by
  refine gEnter (cc := cX2_append) (maxL := 4) (ret := none) (by decide) rfl (Nat.le_of_ble_eq_true rfl) ?_
  intro p e s m below meth c ls S hr hlk C hl
  have S : CallFix p m c cX2_append 4 s _ wsX2_append RX2 := S
  have hl : lv_has ls 4 [(0, .ref (ad x0)), (1, .int x1), (2, .int x2), (3, .int x3)] := hl
  rw [mX2_append] at hm
  refine lv_aload_n S.1 S.2.1 dX2_append_0 rfl (lv_at hl 0 rfl) ?_
  refine g_get (k := x0) (ci := 2) (f := 4) (v := .int (M.1 x0 4))  S C kiX2_append_X2 kfX2_append_39 rfl (by decide) hL0.1 rfl rfl dX2_append_1 ?_
  refine lv_aload_n S.1 S.2.1 dX2_append_4 rfl (lv_at hl 0 rfl) ?_
  refine g_get (k := x0) (ci := 2) (f := 3) (v := .int (M.1 x0 3))  S C kiX2_append_X2 kfX2_append_15 rfl (by decide) hL0.1 rfl rfl dX2_append_5 ?_
  refine lv_icmp_ge (tgt := 51) S.1 S.2.1 dX2_append_8 (by decide) (fun c1 => ?_) (fun c1 => ?_)
  · rw [if_pos c1] at hm
    exact gRetv S hr hlk C (Option.some.inj hm) dX2_append_51
  · rw [if_neg c1] at hm
    refine lv_aload_n S.1 S.2.1 dX2_append_11 rfl (lv_at hl 0 rfl) ?_
    refine g_get (k := x0) (ci := 2) (f := 0) (v := .ref (ad (x0 + 1)))  S C kiX2_append_X2 kfX2_append_21 rfl (by decide) hL0.1 rfl rfl dX2_append_12 ?_
    refine lv_aload_n S.1 S.2.1 dX2_append_15 rfl (lv_at hl 0 rfl) ?_
    refine g_get (k := x0) (ci := 2) (f := 4) (v := .int (M.1 x0 4))  S C kiX2_append_X2 kfX2_append_39 rfl (by decide) hL0.1 rfl rfl dX2_append_16 ?_
    refine lv_iload_n S.1 S.2.1 dX2_append_19 rfl (lv_at hl 1 rfl) ?_
    obtain ⟨h2, hm⟩ := ck_ok hm
    obtain ⟨M3, eM3, hm⟩ := nmd_ok hm
    refine g_iast S C (k := (x0 + 1)) (hL0).2.1 h2 dX2_append_20 (fun H locs C => ?_)
    rw [← eM3] at C
    refine lv_aload_n S.1 S.2.1 dX2_append_21 rfl (lv_at hl 0 rfl) ?_
    refine g_get (k := x0) (ci := 2) (f := 1) (v := .ref (ad (x0 + 2)))  S C kiX2_append_X2 kfX2_append_25 rfl (by decide) hL0.1 rfl rfl dX2_append_22 ?_
    refine lv_aload_n S.1 S.2.1 dX2_append_25 rfl (lv_at hl 0 rfl) ?_
    refine g_get (k := x0) (ci := 2) (f := 4) (v := .int (M3.1 x0 4))  S C kiX2_append_X2 kfX2_append_39 rfl (by decide) hL0.1 rfl rfl dX2_append_26 ?_
    refine lv_iload_n S.1 S.2.1 dX2_append_29 rfl (lv_at hl 2 rfl) ?_
    obtain ⟨h4, hm⟩ := ck_ok hm
    obtain ⟨M5, eM5, hm⟩ := nmd_ok hm
    refine g_iast S C (k := (x0 + 2)) (hL0).2.2.1 h4 dX2_append_30 (fun H locs C => ?_)
    rw [← eM5] at C
    refine lv_aload_n S.1 S.2.1 dX2_append_31 rfl (lv_at hl 0 rfl) ?_
    refine g_get (k := x0) (ci := 2) (f := 2) (v := .ref (ad (x0 + 3)))  S C kiX2_append_X2 kfX2_append_28 rfl (by decide) hL0.1 rfl rfl dX2_append_32 ?_
    refine lv_aload_n S.1 S.2.1 dX2_append_35 rfl (lv_at hl 0 rfl) ?_
    refine g_get (k := x0) (ci := 2) (f := 4) (v := .int (M5.1 x0 4))  S C kiX2_append_X2 kfX2_append_39 rfl (by decide) hL0.1 rfl rfl dX2_append_36 ?_
    refine lv_iload_n S.1 S.2.1 dX2_append_39 rfl (lv_at hl 3 rfl) ?_
    obtain ⟨h6, hm⟩ := ck_ok hm
    obtain ⟨M7, eM7, hm⟩ := nmd_ok hm
    refine g_iast S C (k := (x0 + 3)) (hL0).2.2.2 h6 dX2_append_40 (fun H locs C => ?_)
    rw [← eM7] at C
    refine lv_aload_n S.1 S.2.1 dX2_append_41 rfl (lv_at hl 0 rfl) ?_
    refine lv_dup S.1 S.2.1 dX2_append_42 rfl ?_
    refine g_get (k := x0) (ci := 2) (f := 4) (v := .int (M7.1 x0 4))  S C kiX2_append_X2 kfX2_append_39 rfl (by decide) hL0.1 rfl rfl dX2_append_43 ?_
    refine lv_iconst (v := (1 : Int32)) S.1 S.2.1 dX2_append_46 (by decide) ?_
    refine lv_iadd S.1 S.2.1 dX2_append_47 ?_
    obtain ⟨M8, eM8, hm⟩ := nmd_ok hm
    refine g_put (M' := (sI M7 x0 4 ((M7.1 x0 4) + (1 : Int32)))) (k := x0) (ci := 2) (f := 4) (v := .int ((M7.1 x0 4) + (1 : Int32))) (ty := .int) S C kiX2_append_X2 tyX2 tyX2_ok nmX2 kfX2_append_39 rfl (by decide) rfl (by decide +kernel) rfl rfl hL0.1 rfl (Nat.le_of_ble_eq_true rfl) (by rw [sI_at]; rfl) sI_off dX2_append_48 (fun H locs C => ?_)
    rw [← eM8] at C
    exact gRetv S hr hlk C (Option.some.inj hm) dX2_append_51
def mX2_write (M : gMem) (x0 : Nat) (x1 : Int32) (x2 : Int32) (x3 : Int32) (x4 : Int32) : Option gMem := ck (inb x1 (lnOf x0)) <| nmd (sI M (x0 + 1) x1.toNatClampNeg x2) fun M2 => ck (inb x1 (lnOf x0)) <| nmd (sI M2 (x0 + 2) x1.toNatClampNeg x3) fun M4 => ck (inb x1 (lnOf x0)) <| nmd (sI M4 (x0 + 3) x1.toNatClampNeg x4) fun M6 => some M6
set_option maxHeartbeats 4000000 in
set_option maxRecDepth 100000 in
theorem c_X2_write (l : Launch) (D : va_G) (cy : gCy) (ad : Nat → Nat) (M : gMem) (x0 : Nat) (hL0 : isL x0) (x1 : Int32) (x2 : Int32) (x3 : Int32) (x4 : Int32) (r0 : gMem) (hm : mX2_write M x0 x1 x2 x3 x4 = some r0) : Met l yX2_write wsX2_write (gR 0 0) (va_Pc [.ref (ad x0), .int x1, .int x2, .int x3, .int x4] (gP shC D cy ad M)) (gQv shC D cy ad r0) 0 0 (gA shC ad) := by
  refine gEnter (cc := cX2_write) (maxL := 5) (ret := none) (by decide) rfl (Nat.le_of_ble_eq_true rfl) ?_
  intro p e s m below meth c ls S hr hlk C hl
  have S : CallFix p m c cX2_write 5 s _ wsX2_write RX2 := S
  have hl : lv_has ls 5 [(0, .ref (ad x0)), (1, .int x1), (2, .int x2), (3, .int x3), (4, .int x4)] := hl
  rw [mX2_write] at hm
  refine lv_aload_n S.1 S.2.1 dX2_write_0 rfl (lv_at hl 0 rfl) ?_
  refine g_get (k := x0) (ci := 2) (f := 0) (v := .ref (ad (x0 + 1)))  S C kiX2_write_X2 kfX2_write_21 rfl (by decide) hL0.1 rfl rfl dX2_write_1 ?_
  refine lv_iload_n S.1 S.2.1 dX2_write_4 rfl (lv_at hl 1 rfl) ?_
  refine lv_iload_n S.1 S.2.1 dX2_write_5 rfl (lv_at hl 2 rfl) ?_
  obtain ⟨h1, hm⟩ := ck_ok hm
  obtain ⟨M2, eM2, hm⟩ := nmd_ok hm
  refine g_iast S C (k := (x0 + 1)) (hL0).2.1 h1 dX2_write_6 (fun H locs C => ?_)
  rw [← eM2] at C
  refine lv_aload_n S.1 S.2.1 dX2_write_7 rfl (lv_at hl 0 rfl) ?_
  refine g_get (k := x0) (ci := 2) (f := 1) (v := .ref (ad (x0 + 2)))  S C kiX2_write_X2 kfX2_write_25 rfl (by decide) hL0.1 rfl rfl dX2_write_8 ?_
  refine lv_iload_n S.1 S.2.1 dX2_write_11 rfl (lv_at hl 1 rfl) ?_
  refine lv_iload_n S.1 S.2.1 dX2_write_12 rfl (lv_at hl 3 rfl) ?_
  obtain ⟨h3, hm⟩ := ck_ok hm
  obtain ⟨M4, eM4, hm⟩ := nmd_ok hm
  refine g_iast S C (k := (x0 + 2)) (hL0).2.2.1 h3 dX2_write_13 (fun H locs C => ?_)
  rw [← eM4] at C
  refine lv_aload_n S.1 S.2.1 dX2_write_14 rfl (lv_at hl 0 rfl) ?_
  refine g_get (k := x0) (ci := 2) (f := 2) (v := .ref (ad (x0 + 3)))  S C kiX2_write_X2 kfX2_write_28 rfl (by decide) hL0.1 rfl rfl dX2_write_15 ?_
  refine lv_iload_n S.1 S.2.1 dX2_write_18 rfl (lv_at hl 1 rfl) ?_
  refine lv_iload S.1 S.2.1 dX2_write_19 (lv_at hl 4 rfl) ?_
  obtain ⟨h5, hm⟩ := ck_ok hm
  obtain ⟨M6, eM6, hm⟩ := nmd_ok hm
  refine g_iast S C (k := (x0 + 3)) (hL0).2.2.2 h5 dX2_write_21 (fun H locs C => ?_)
  rw [← eM6] at C
  exact gRetv S hr hlk C (Option.some.inj hm) dX2_write_22
def mX2_insert_31 : Nat → gMem → Nat → Int32 → Int32 → Int32 → Int32 → Int32 → Option (Int32 × gMem)
  | 0, _, _, _, _, _, _, _ => none
  | n + 1, M, x0, x1, x2, x3, x4, x5 => if x5 ≤ x1 then ((mX2_write M x0 x1 x2 x3 x4).bind fun r2 => nmd (sI r2 x0 4 ((r2.1 x0 4) + (1 : Int32))) fun M3 => some ((1 : Int32), M3)) else (ck (inb (x5 - (1 : Int32)) (lnOf x0)) <| ck (inb (x5 - (1 : Int32)) (lnOf x0)) <| ck (inb (x5 - (1 : Int32)) (lnOf x0)) <| (mX2_write M x0 x5 (M.1 (x0 + 1) (x5 - (1 : Int32)).toNatClampNeg) (M.1 (x0 + 2) (x5 - (1 : Int32)).toNatClampNeg) (M.1 (x0 + 3) (x5 - (1 : Int32)).toNatClampNeg)).bind fun r7 => nmd (x5 + (-1 : Int32)) fun y8 => mX2_insert_31 n r7 x0 x1 x2 x3 x4 y8)
def mX2_insert (M : gMem) (x0 : Nat) (x1 : Int32) (x2 : Int32) (x3 : Int32) (x4 : Int32) : Option (Int32 × gMem) := if (M.1 x0 3) ≤ (M.1 x0 4) then (some ((0 : Int32), M)) else (if x1 < 0 then (some ((0 : Int32), M)) else (if x1 ≤ (M.1 x0 4) then (nmd (M.1 x0 4) fun y4 => mX2_insert_31 FU M x0 x1 x2 x3 x4 y4) else (some ((0 : Int32), M))))
set_option maxHeartbeats 4000000 in
set_option maxRecDepth 100000 in
theorem wX2_insert_31 {p : Program} {l : Launch} {e : Env} {s : State} {m : MethodId} {args : Array Value} {below : List Frame} {meth : Method} {c : Code} {D : va_G} {cy : gCy} {ad : Nat → Nat} {r0 : (Int32 × gMem)} (S : CallFix p m c cX2_insert 6 s args wsX2_insert RX2) (hr : meth.sig.returnType = (some .boolean)) (hlk : meth.locks = false) : ∀ (n : Nat), ∀ (M : gMem) (H : Heap) (locs : List Loc), gW shC D cy ad s s.heap M H locs → ∀ (x0 : Nat) (hL0 : isL x0) (x1 : Int32) (x2 : Int32) (x3 : Int32) (x4 : Int32) (x5 : Int32), ∀ (ls : Array Slot), lv_has ls 6 [(0, .ref (ad x0)), (1, .int x1), (2, .int x2), (3, .int x3), (4, .int x4), (5, .int x5)] → mX2_insert_31 n M x0 x1 x2 x3 x4 x5 = some r0 → W p l e (gR 1 24) s m args below meth c H locs 0 0 (MQ below (gQi shC D cy ad r0.1 r0.2) args s 0 0 (gA shC ad)) (F0 m 31 ls []) := by
  intro n
  induction n with
  | zero => intro M H locs C x0 hL0 x1 x2 x3 x4 x5 ls hl hm; exact absurd hm (by simp [mX2_insert_31])
  | succ n ih =>
    intro M H locs C x0 hL0 x1 x2 x3 x4 x5 ls hl hm
    rw [mX2_insert_31] at hm
    refine lv_iload S.1 S.2.1 dX2_insert_31 (lv_at hl 5 rfl) ?_
    refine lv_iload_n S.1 S.2.1 dX2_insert_33 rfl (lv_at hl 1 rfl) ?_
    refine lv_icmp_le (tgt := 76) S.1 S.2.1 dX2_insert_34 (by decide) (fun c1 => ?_) (fun c1 => ?_)
    · rw [if_pos c1] at hm
      refine lv_aload_n S.1 S.2.1 dX2_insert_76 rfl (lv_at hl 0 rfl) ?_
      refine lv_iload_n S.1 S.2.1 dX2_insert_77 rfl (lv_at hl 1 rfl) ?_
      refine lv_iload_n S.1 S.2.1 dX2_insert_78 rfl (lv_at hl 2 rfl) ?_
      refine lv_iload_n S.1 S.2.1 dX2_insert_79 rfl (lv_at hl 3 rfl) ?_
      refine lv_iload S.1 S.2.1 dX2_insert_80 (lv_at hl 4 rfl) ?_
      obtain ⟨r2, hcr2, hm⟩ := bd_ok hm
      refine gC_v C (gRV (k := x0) (ci := 2) (r := (RX2, TX2, 5)) (As := [.int x1, .int x2, .int x3, .int x4]) (rest := []) 4 S C (c_X2_write l D cy ad M x0 hL0 x1 x2 x3 x4 r2 hcr2) gX2_insert_X2_write rfl (by decide +kernel) (by decide) hL0.1 rfl rfl rfl hl.1 rfl (Nat.le_of_ble_eq_true rfl) dX2_insert_82) (fun H locs C => ?_)
      refine lv_aload_n S.1 S.2.1 dX2_insert_85 rfl (lv_at hl 0 rfl) ?_
      refine lv_dup S.1 S.2.1 dX2_insert_86 rfl ?_
      refine g_get (k := x0) (ci := 2) (f := 4) (v := .int (r2.1 x0 4))  S C kiX2_insert_X2 kfX2_insert_39 rfl (by decide) hL0.1 rfl rfl dX2_insert_87 ?_
      refine lv_iconst (v := (1 : Int32)) S.1 S.2.1 dX2_insert_90 (by decide) ?_
      refine lv_iadd S.1 S.2.1 dX2_insert_91 ?_
      obtain ⟨M3, eM3, hm⟩ := nmd_ok hm
      refine g_put (M' := (sI r2 x0 4 ((r2.1 x0 4) + (1 : Int32)))) (k := x0) (ci := 2) (f := 4) (v := .int ((r2.1 x0 4) + (1 : Int32))) (ty := .int) S C kiX2_insert_X2 tyX2 tyX2_ok nmX2 kfX2_insert_39 rfl (by decide) rfl (by decide +kernel) rfl rfl hL0.1 rfl (Nat.le_of_ble_eq_true rfl) (by rw [sI_at]; rfl) sI_off dX2_insert_92 (fun H locs C => ?_)
      rw [← eM3] at C
      refine lv_iconst (v := (1 : Int32)) S.1 S.2.1 dX2_insert_95 (by decide) ?_
      exact gRetz S hr hlk C rfl (pr1 hm) (pr2 hm) dX2_insert_96
    · rw [if_neg c1] at hm
      refine lv_aload_n S.1 S.2.1 dX2_insert_37 rfl (lv_at hl 0 rfl) ?_
      refine lv_iload S.1 S.2.1 dX2_insert_38 (lv_at hl 5 rfl) ?_
      refine lv_aload_n S.1 S.2.1 dX2_insert_40 rfl (lv_at hl 0 rfl) ?_
      refine g_get (k := x0) (ci := 2) (f := 0) (v := .ref (ad (x0 + 1)))  S C kiX2_insert_X2 kfX2_insert_21 rfl (by decide) hL0.1 rfl rfl dX2_insert_41 ?_
      refine lv_iload S.1 S.2.1 dX2_insert_44 (lv_at hl 5 rfl) ?_
      refine lv_iconst (v := (1 : Int32)) S.1 S.2.1 dX2_insert_46 (by decide) ?_
      refine lv_isub S.1 S.2.1 dX2_insert_47 ?_
      obtain ⟨h4, hm⟩ := ck_ok hm
      refine g_iald S C (k := (x0 + 1)) (hL0).2.1 h4 dX2_insert_48 ?_
      refine lv_aload_n S.1 S.2.1 dX2_insert_49 rfl (lv_at hl 0 rfl) ?_
      refine g_get (k := x0) (ci := 2) (f := 1) (v := .ref (ad (x0 + 2)))  S C kiX2_insert_X2 kfX2_insert_25 rfl (by decide) hL0.1 rfl rfl dX2_insert_50 ?_
      refine lv_iload S.1 S.2.1 dX2_insert_53 (lv_at hl 5 rfl) ?_
      refine lv_iconst (v := (1 : Int32)) S.1 S.2.1 dX2_insert_55 (by decide) ?_
      refine lv_isub S.1 S.2.1 dX2_insert_56 ?_
      obtain ⟨h5, hm⟩ := ck_ok hm
      refine g_iald S C (k := (x0 + 2)) (hL0).2.2.1 h5 dX2_insert_57 ?_
      refine lv_aload_n S.1 S.2.1 dX2_insert_58 rfl (lv_at hl 0 rfl) ?_
      refine g_get (k := x0) (ci := 2) (f := 2) (v := .ref (ad (x0 + 3)))  S C kiX2_insert_X2 kfX2_insert_28 rfl (by decide) hL0.1 rfl rfl dX2_insert_59 ?_
      refine lv_iload S.1 S.2.1 dX2_insert_62 (lv_at hl 5 rfl) ?_
      refine lv_iconst (v := (1 : Int32)) S.1 S.2.1 dX2_insert_64 (by decide) ?_
      refine lv_isub S.1 S.2.1 dX2_insert_65 ?_
      obtain ⟨h6, hm⟩ := ck_ok hm
      refine g_iald S C (k := (x0 + 3)) (hL0).2.2.2 h6 dX2_insert_66 ?_
      obtain ⟨r7, hcr7, hm⟩ := bd_ok hm
      refine gC_v C (gRV (k := x0) (ci := 2) (r := (RX2, TX2, 5)) (As := [.int x5, .int (M.1 (x0 + 1) (x5 - (1 : Int32)).toNatClampNeg), .int (M.1 (x0 + 2) (x5 - (1 : Int32)).toNatClampNeg), .int (M.1 (x0 + 3) (x5 - (1 : Int32)).toNatClampNeg)]) (rest := []) 4 S C (c_X2_write l D cy ad M x0 hL0 x5 (M.1 (x0 + 1) (x5 - (1 : Int32)).toNatClampNeg) (M.1 (x0 + 2) (x5 - (1 : Int32)).toNatClampNeg) (M.1 (x0 + 3) (x5 - (1 : Int32)).toNatClampNeg) r7 hcr7) gX2_insert_X2_write rfl (by decide +kernel) (by decide) hL0.1 rfl rfl rfl hl.1 rfl (Nat.le_of_ble_eq_true rfl) dX2_insert_67) (fun H locs C => ?_)
      obtain ⟨y8, ey8, hm⟩ := nmd_ok hm
      refine lv_iinc (v := y8) (lv' := [(5, .int y8), (0, .ref (ad x0)), (1, .int x1), (2, .int x2), (3, .int x3), (4, .int x4)]) S.1 S.2.1 dX2_insert_70 hl (k := 5) rfl (by rw [ey8]; rfl) (by decide) rfl (fun ls hl => ?_)
      refine lv_goto (tgt := 31) S.1 S.2.1 dX2_insert_73 (by decide) ?_
      exact ih r7 _ _ C x0 hL0 x1 x2 x3 x4 y8 ls (lv_sub hl [1, 2, 3, 4, 5, 0] rfl) hm
set_option maxHeartbeats 4000000 in
set_option maxRecDepth 100000 in
theorem c_X2_insert (l : Launch) (D : va_G) (cy : gCy) (ad : Nat → Nat) (M : gMem) (x0 : Nat) (hL0 : isL x0) (x1 : Int32) (x2 : Int32) (x3 : Int32) (x4 : Int32) (r0 : (Int32 × gMem)) (hm : mX2_insert M x0 x1 x2 x3 x4 = some r0) : Met l yX2_insert wsX2_insert (gR 1 24) (va_Pc [.ref (ad x0), .int x1, .int x2, .int x3, .int x4] (gP shC D cy ad M)) (gQi shC D cy ad r0.1 r0.2) 0 0 (gA shC ad) := by
  refine gEnter (cc := cX2_insert) (maxL := 6) (ret := (some .boolean)) (by decide) rfl (Nat.le_of_ble_eq_true rfl) ?_
  intro p e s m below meth c ls S hr hlk C hl
  have S : CallFix p m c cX2_insert 6 s _ wsX2_insert RX2 := S
  have hl : lv_has ls 6 [(0, .ref (ad x0)), (1, .int x1), (2, .int x2), (3, .int x3), (4, .int x4)] := hl
  rw [mX2_insert] at hm
  refine lv_aload_n S.1 S.2.1 dX2_insert_0 rfl (lv_at hl 0 rfl) ?_
  refine g_get (k := x0) (ci := 2) (f := 4) (v := .int (M.1 x0 4))  S C kiX2_insert_X2 kfX2_insert_39 rfl (by decide) hL0.1 rfl rfl dX2_insert_1 ?_
  refine lv_aload_n S.1 S.2.1 dX2_insert_4 rfl (lv_at hl 0 rfl) ?_
  refine g_get (k := x0) (ci := 2) (f := 3) (v := .int (M.1 x0 3))  S C kiX2_insert_X2 kfX2_insert_15 rfl (by decide) hL0.1 rfl rfl dX2_insert_5 ?_
  refine lv_icmp_ge (tgt := 23) S.1 S.2.1 dX2_insert_8 (by decide) (fun c1 => ?_) (fun c1 => ?_)
  · rw [if_pos c1] at hm
    refine lv_iconst (v := (0 : Int32)) S.1 S.2.1 dX2_insert_23 (by decide) ?_
    exact gRetz S hr hlk C rfl (pr1 hm) (pr2 hm) dX2_insert_24
  · rw [if_neg c1] at hm
    refine lv_iload_n S.1 S.2.1 dX2_insert_11 rfl (lv_at hl 1 rfl) ?_
    refine lv_if_lt (tgt := 23) S.1 S.2.1 dX2_insert_12 (by decide) (fun c2 => ?_) (fun c2 => ?_)
    · rw [if_pos c2] at hm
      refine lv_iconst (v := (0 : Int32)) S.1 S.2.1 dX2_insert_23 (by decide) ?_
      exact gRetz S hr hlk C rfl (pr1 hm) (pr2 hm) dX2_insert_24
    · rw [if_neg c2] at hm
      refine lv_iload_n S.1 S.2.1 dX2_insert_15 rfl (lv_at hl 1 rfl) ?_
      refine lv_aload_n S.1 S.2.1 dX2_insert_16 rfl (lv_at hl 0 rfl) ?_
      refine g_get (k := x0) (ci := 2) (f := 4) (v := .int (M.1 x0 4))  S C kiX2_insert_X2 kfX2_insert_39 rfl (by decide) hL0.1 rfl rfl dX2_insert_17 ?_
      refine lv_icmp_le (tgt := 25) S.1 S.2.1 dX2_insert_20 (by decide) (fun c3 => ?_) (fun c3 => ?_)
      · rw [if_pos c3] at hm
        refine lv_aload_n S.1 S.2.1 dX2_insert_25 rfl (lv_at hl 0 rfl) ?_
        refine g_get (k := x0) (ci := 2) (f := 4) (v := .int (M.1 x0 4))  S C kiX2_insert_X2 kfX2_insert_39 rfl (by decide) hL0.1 rfl rfl dX2_insert_26 ?_
        obtain ⟨y4, ey4, hm⟩ := nmd_ok hm
        refine gNmI ey4 ?_
        refine lv_istore (lv' := [(5, .int y4), (0, .ref (ad x0)), (1, .int x1), (2, .int x2), (3, .int x3), (4, .int x4)]) S.1 S.2.1 dX2_insert_29 hl (by decide) rfl (fun ls hl => ?_)
        exact wX2_insert_31 S hr hlk FU M _ _ C x0 hL0 x1 x2 x3 x4 y4 ls (lv_sub hl [1, 2, 3, 4, 5, 0] rfl) hm
      · rw [if_neg c3] at hm
        refine lv_iconst (v := (0 : Int32)) S.1 S.2.1 dX2_insert_23 (by decide) ?_
        exact gRetz S hr hlk C rfl (pr1 hm) (pr2 hm) dX2_insert_24
def mX2_removeAt_25 : Nat → gMem → Nat → Int32 → Option gMem
  | 0, _, _, _ => none
  | n + 1, M, x0, x2 => if (M.1 x0 4) ≤ x2 then (some M) else (ck (inb (x2 + (1 : Int32)) (lnOf x0)) <| ck (inb (x2 + (1 : Int32)) (lnOf x0)) <| ck (inb (x2 + (1 : Int32)) (lnOf x0)) <| (mX2_write M x0 x2 (M.1 (x0 + 1) (x2 + (1 : Int32)).toNatClampNeg) (M.1 (x0 + 2) (x2 + (1 : Int32)).toNatClampNeg) (M.1 (x0 + 3) (x2 + (1 : Int32)).toNatClampNeg)).bind fun r5 => nmd (x2 + (1 : Int32)) fun y6 => mX2_removeAt_25 n r5 x0 y6)
def mX2_removeAt (M : gMem) (x0 : Nat) (x1 : Int32) : Option gMem := if x1 < 0 then (some M) else (if x1 < (M.1 x0 4) then (nmd (sI M x0 4 ((M.1 x0 4) - (1 : Int32))) fun M3 => mX2_removeAt_25 FU M3 x0 x1) else (some M))
set_option maxHeartbeats 4000000 in
set_option maxRecDepth 100000 in
theorem wX2_removeAt_25 {p : Program} {l : Launch} {e : Env} {s : State} {m : MethodId} {args : Array Value} {below : List Frame} {meth : Method} {c : Code} {D : va_G} {cy : gCy} {ad : Nat → Nat} {r0 : gMem} (S : CallFix p m c cX2_removeAt 3 s args wsX2_removeAt RX2) (hr : meth.sig.returnType = none) (hlk : meth.locks = false) : ∀ (n : Nat), ∀ (M : gMem) (H : Heap) (locs : List Loc), gW shC D cy ad s s.heap M H locs → ∀ (x0 : Nat) (hL0 : isL x0) (x2 : Int32), ∀ (ls : Array Slot), lv_has ls 3 [(0, .ref (ad x0)), (2, .int x2)] → mX2_removeAt_25 n M x0 x2 = some r0 → W p l e (gR 1 24) s m args below meth c H locs 0 0 (MQ below (gQv shC D cy ad r0) args s 0 0 (gA shC ad)) (F0 m 25 ls []) := by
  intro n
  induction n with
  | zero => intro M H locs C x0 hL0 x2 ls hl hm; exact absurd hm (by simp [mX2_removeAt_25])
  | succ n ih =>
    intro M H locs C x0 hL0 x2 ls hl hm
    rw [mX2_removeAt_25] at hm
    refine lv_iload_n S.1 S.2.1 dX2_removeAt_25 rfl (lv_at hl 1 rfl) ?_
    refine lv_aload_n S.1 S.2.1 dX2_removeAt_26 rfl (lv_at hl 0 rfl) ?_
    refine g_get (k := x0) (ci := 2) (f := 4) (v := .int (M.1 x0 4))  S C kiX2_removeAt_X2 kfX2_removeAt_39 rfl (by decide) hL0.1 rfl rfl dX2_removeAt_27 ?_
    refine lv_icmp_ge (tgt := 68) S.1 S.2.1 dX2_removeAt_30 (by decide) (fun c1 => ?_) (fun c1 => ?_)
    · rw [if_pos c1] at hm
      exact gRetv S hr hlk C (Option.some.inj hm) dX2_removeAt_68
    · rw [if_neg c1] at hm
      refine lv_aload_n S.1 S.2.1 dX2_removeAt_33 rfl (lv_at hl 0 rfl) ?_
      refine lv_iload_n S.1 S.2.1 dX2_removeAt_34 rfl (lv_at hl 1 rfl) ?_
      refine lv_aload_n S.1 S.2.1 dX2_removeAt_35 rfl (lv_at hl 0 rfl) ?_
      refine g_get (k := x0) (ci := 2) (f := 0) (v := .ref (ad (x0 + 1)))  S C kiX2_removeAt_X2 kfX2_removeAt_21 rfl (by decide) hL0.1 rfl rfl dX2_removeAt_36 ?_
      refine lv_iload_n S.1 S.2.1 dX2_removeAt_39 rfl (lv_at hl 1 rfl) ?_
      refine lv_iconst (v := (1 : Int32)) S.1 S.2.1 dX2_removeAt_40 (by decide) ?_
      refine lv_iadd S.1 S.2.1 dX2_removeAt_41 ?_
      obtain ⟨h2, hm⟩ := ck_ok hm
      refine g_iald S C (k := (x0 + 1)) (hL0).2.1 h2 dX2_removeAt_42 ?_
      refine lv_aload_n S.1 S.2.1 dX2_removeAt_43 rfl (lv_at hl 0 rfl) ?_
      refine g_get (k := x0) (ci := 2) (f := 1) (v := .ref (ad (x0 + 2)))  S C kiX2_removeAt_X2 kfX2_removeAt_25 rfl (by decide) hL0.1 rfl rfl dX2_removeAt_44 ?_
      refine lv_iload_n S.1 S.2.1 dX2_removeAt_47 rfl (lv_at hl 1 rfl) ?_
      refine lv_iconst (v := (1 : Int32)) S.1 S.2.1 dX2_removeAt_48 (by decide) ?_
      refine lv_iadd S.1 S.2.1 dX2_removeAt_49 ?_
      obtain ⟨h3, hm⟩ := ck_ok hm
      refine g_iald S C (k := (x0 + 2)) (hL0).2.2.1 h3 dX2_removeAt_50 ?_
      refine lv_aload_n S.1 S.2.1 dX2_removeAt_51 rfl (lv_at hl 0 rfl) ?_
      refine g_get (k := x0) (ci := 2) (f := 2) (v := .ref (ad (x0 + 3)))  S C kiX2_removeAt_X2 kfX2_removeAt_28 rfl (by decide) hL0.1 rfl rfl dX2_removeAt_52 ?_
      refine lv_iload_n S.1 S.2.1 dX2_removeAt_55 rfl (lv_at hl 1 rfl) ?_
      refine lv_iconst (v := (1 : Int32)) S.1 S.2.1 dX2_removeAt_56 (by decide) ?_
      refine lv_iadd S.1 S.2.1 dX2_removeAt_57 ?_
      obtain ⟨h4, hm⟩ := ck_ok hm
      refine g_iald S C (k := (x0 + 3)) (hL0).2.2.2 h4 dX2_removeAt_58 ?_
      obtain ⟨r5, hcr5, hm⟩ := bd_ok hm
      refine gC_v C (gRV (k := x0) (ci := 2) (r := (RX2, TX2, 5)) (As := [.int x2, .int (M.1 (x0 + 1) (x2 + (1 : Int32)).toNatClampNeg), .int (M.1 (x0 + 2) (x2 + (1 : Int32)).toNatClampNeg), .int (M.1 (x0 + 3) (x2 + (1 : Int32)).toNatClampNeg)]) (rest := []) 4 S C (c_X2_write l D cy ad M x0 hL0 x2 (M.1 (x0 + 1) (x2 + (1 : Int32)).toNatClampNeg) (M.1 (x0 + 2) (x2 + (1 : Int32)).toNatClampNeg) (M.1 (x0 + 3) (x2 + (1 : Int32)).toNatClampNeg) r5 hcr5) gX2_removeAt_X2_write rfl (by decide +kernel) (by decide) hL0.1 rfl rfl rfl hl.1 rfl (Nat.le_of_ble_eq_true rfl) dX2_removeAt_59) (fun H locs C => ?_)
      obtain ⟨y6, ey6, hm⟩ := nmd_ok hm
      refine lv_iinc (v := y6) (lv' := [(2, .int y6), (0, .ref (ad x0))]) S.1 S.2.1 dX2_removeAt_62 hl (k := 1) rfl (by rw [ey6]; rfl) (by decide) rfl (fun ls hl => ?_)
      refine lv_goto (tgt := 25) S.1 S.2.1 dX2_removeAt_65 (by decide) ?_
      exact ih r5 _ _ C x0 hL0 y6 ls (lv_sub hl [1, 0] rfl) hm
set_option maxHeartbeats 4000000 in
set_option maxRecDepth 100000 in
theorem c_X2_removeAt (l : Launch) (D : va_G) (cy : gCy) (ad : Nat → Nat) (M : gMem) (x0 : Nat) (hL0 : isL x0) (x1 : Int32) (r0 : gMem) (hm : mX2_removeAt M x0 x1 = some r0) : Met l yX2_removeAt wsX2_removeAt (gR 1 24) (va_Pc [.ref (ad x0), .int x1] (gP shC D cy ad M)) (gQv shC D cy ad r0) 0 0 (gA shC ad) := by
  refine gEnter (cc := cX2_removeAt) (maxL := 3) (ret := none) (by decide) rfl (Nat.le_of_ble_eq_true rfl) ?_
  intro p e s m below meth c ls S hr hlk C hl
  have S : CallFix p m c cX2_removeAt 3 s _ wsX2_removeAt RX2 := S
  have hl : lv_has ls 3 [(0, .ref (ad x0)), (1, .int x1)] := hl
  rw [mX2_removeAt] at hm
  refine lv_iload_n S.1 S.2.1 dX2_removeAt_0 rfl (lv_at hl 1 rfl) ?_
  refine lv_if_lt (tgt := 12) S.1 S.2.1 dX2_removeAt_1 (by decide) (fun c1 => ?_) (fun c1 => ?_)
  · rw [if_pos c1] at hm
    exact gRetv S hr hlk C (Option.some.inj hm) dX2_removeAt_12
  · rw [if_neg c1] at hm
    refine lv_iload_n S.1 S.2.1 dX2_removeAt_4 rfl (lv_at hl 1 rfl) ?_
    refine lv_aload_n S.1 S.2.1 dX2_removeAt_5 rfl (lv_at hl 0 rfl) ?_
    refine g_get (k := x0) (ci := 2) (f := 4) (v := .int (M.1 x0 4))  S C kiX2_removeAt_X2 kfX2_removeAt_39 rfl (by decide) hL0.1 rfl rfl dX2_removeAt_6 ?_
    refine lv_icmp_lt (tgt := 13) S.1 S.2.1 dX2_removeAt_9 (by decide) (fun c2 => ?_) (fun c2 => ?_)
    · rw [if_pos c2] at hm
      refine lv_aload_n S.1 S.2.1 dX2_removeAt_13 rfl (lv_at hl 0 rfl) ?_
      refine lv_dup S.1 S.2.1 dX2_removeAt_14 rfl ?_
      refine g_get (k := x0) (ci := 2) (f := 4) (v := .int (M.1 x0 4))  S C kiX2_removeAt_X2 kfX2_removeAt_39 rfl (by decide) hL0.1 rfl rfl dX2_removeAt_15 ?_
      refine lv_iconst (v := (1 : Int32)) S.1 S.2.1 dX2_removeAt_18 (by decide) ?_
      refine lv_isub S.1 S.2.1 dX2_removeAt_19 ?_
      obtain ⟨M3, eM3, hm⟩ := nmd_ok hm
      refine g_put (M' := (sI M x0 4 ((M.1 x0 4) - (1 : Int32)))) (k := x0) (ci := 2) (f := 4) (v := .int ((M.1 x0 4) - (1 : Int32))) (ty := .int) S C kiX2_removeAt_X2 tyX2 tyX2_ok nmX2 kfX2_removeAt_39 rfl (by decide) rfl (by decide +kernel) rfl rfl hL0.1 rfl (Nat.le_of_ble_eq_true rfl) (by rw [sI_at]; rfl) sI_off dX2_removeAt_20 (fun H locs C => ?_)
      rw [← eM3] at C
      refine lv_iload_n S.1 S.2.1 dX2_removeAt_23 rfl (lv_at hl 1 rfl) ?_
      refine lv_istore_n (lv' := [(2, .int x1), (0, .ref (ad x0)), (1, .int x1)]) S.1 S.2.1 dX2_removeAt_24 rfl hl (by decide) rfl (fun ls hl => ?_)
      exact wX2_removeAt_25 S hr hlk FU M3 _ _ C x0 hL0 x1 ls (lv_sub hl [1, 0] rfl) hm
    · rw [if_neg c2] at hm
      exact gRetv S hr hlk C (Option.some.inj hm) dX2_removeAt_12
def mX2_become_14 : Nat → gMem → Nat → Nat → Int32 → Int32 → Option gMem
  | 0, _, _, _, _, _ => none
  | n + 1, M, x0, x1, x2, x3 => if x2 ≤ x3 then (nmd (sI M x0 4 x2) fun M2 => some M2) else (ck (inb x3 (lnOf x1)) <| ck (inb x3 (lnOf x1)) <| ck (inb x3 (lnOf x1)) <| (mX2_write M x0 x3 (M.1 (x1 + 1) x3.toNatClampNeg) (M.1 (x1 + 2) x3.toNatClampNeg) (M.1 (x1 + 3) x3.toNatClampNeg)).bind fun r6 => nmd (x3 + (1 : Int32)) fun y7 => mX2_become_14 n r6 x0 x1 x2 y7)
def mX2_become (M : gMem) (x0 : Nat) (x1 : Nat) : Option gMem := nmd (if (M.1 x0 3) < (M.1 x1 4) then (M.1 x0 3) else (M.1 x1 4)) fun y1 => mX2_become_14 FU M x0 x1 y1 (0 : Int32)
set_option maxHeartbeats 4000000 in
set_option maxRecDepth 100000 in
theorem wX2_become_14 {p : Program} {l : Launch} {e : Env} {s : State} {m : MethodId} {args : Array Value} {below : List Frame} {meth : Method} {c : Code} {D : va_G} {cy : gCy} {ad : Nat → Nat} {r0 : gMem} (S : CallFix p m c cX2_become 4 s args wsX2_become RX2) (hr : meth.sig.returnType = none) (hlk : meth.locks = false) : ∀ (n : Nat), ∀ (M : gMem) (H : Heap) (locs : List Loc), gW shC D cy ad s s.heap M H locs → ∀ (x0 : Nat) (hL0 : isL x0) (x1 : Nat) (hL1 : isL x1) (x2 : Int32) (x3 : Int32), ∀ (ls : Array Slot), lv_has ls 4 [(0, .ref (ad x0)), (1, .ref (ad x1)), (2, .int x2), (3, .int x3)] → mX2_become_14 n M x0 x1 x2 x3 = some r0 → W p l e (gR 1 24) s m args below meth c H locs 0 0 (MQ below (gQv shC D cy ad r0) args s 0 0 (gA shC ad)) (F0 m 14 ls []) := by
  intro n
  induction n with
  | zero => intro M H locs C x0 hL0 x1 hL1 x2 x3 ls hl hm; exact absurd hm (by simp [mX2_become_14])
  | succ n ih =>
    intro M H locs C x0 hL0 x1 hL1 x2 x3 ls hl hm
    rw [mX2_become_14] at hm
    refine lv_iload_n S.1 S.2.1 dX2_become_14 rfl (lv_at hl 3 rfl) ?_
    refine lv_iload_n S.1 S.2.1 dX2_become_15 rfl (lv_at hl 2 rfl) ?_
    refine lv_icmp_ge (tgt := 48) S.1 S.2.1 dX2_become_16 (by decide) (fun c1 => ?_) (fun c1 => ?_)
    · rw [if_pos c1] at hm
      refine lv_aload_n S.1 S.2.1 dX2_become_48 rfl (lv_at hl 0 rfl) ?_
      refine lv_iload_n S.1 S.2.1 dX2_become_49 rfl (lv_at hl 2 rfl) ?_
      obtain ⟨M2, eM2, hm⟩ := nmd_ok hm
      refine g_put (M' := (sI M x0 4 x2)) (k := x0) (ci := 2) (f := 4) (v := .int x2) (ty := .int) S C kiX2_become_X2 tyX2 tyX2_ok nmX2 kfX2_become_39 rfl (by decide) rfl (by decide +kernel) rfl rfl hL0.1 rfl (Nat.le_of_ble_eq_true rfl) (by rw [sI_at]; rfl) sI_off dX2_become_50 (fun H locs C => ?_)
      rw [← eM2] at C
      exact gRetv S hr hlk C (Option.some.inj hm) dX2_become_53
    · rw [if_neg c1] at hm
      refine lv_aload_n S.1 S.2.1 dX2_become_19 rfl (lv_at hl 0 rfl) ?_
      refine lv_iload_n S.1 S.2.1 dX2_become_20 rfl (lv_at hl 3 rfl) ?_
      refine lv_aload_n S.1 S.2.1 dX2_become_21 rfl (lv_at hl 1 rfl) ?_
      refine g_get (k := x1) (ci := 2) (f := 0) (v := .ref (ad (x1 + 1)))  S C kiX2_become_X2 kfX2_become_21 rfl (by decide) hL1.1 rfl rfl dX2_become_22 ?_
      refine lv_iload_n S.1 S.2.1 dX2_become_25 rfl (lv_at hl 3 rfl) ?_
      obtain ⟨h3, hm⟩ := ck_ok hm
      refine g_iald S C (k := (x1 + 1)) (hL1).2.1 h3 dX2_become_26 ?_
      refine lv_aload_n S.1 S.2.1 dX2_become_27 rfl (lv_at hl 1 rfl) ?_
      refine g_get (k := x1) (ci := 2) (f := 1) (v := .ref (ad (x1 + 2)))  S C kiX2_become_X2 kfX2_become_25 rfl (by decide) hL1.1 rfl rfl dX2_become_28 ?_
      refine lv_iload_n S.1 S.2.1 dX2_become_31 rfl (lv_at hl 3 rfl) ?_
      obtain ⟨h4, hm⟩ := ck_ok hm
      refine g_iald S C (k := (x1 + 2)) (hL1).2.2.1 h4 dX2_become_32 ?_
      refine lv_aload_n S.1 S.2.1 dX2_become_33 rfl (lv_at hl 1 rfl) ?_
      refine g_get (k := x1) (ci := 2) (f := 2) (v := .ref (ad (x1 + 3)))  S C kiX2_become_X2 kfX2_become_28 rfl (by decide) hL1.1 rfl rfl dX2_become_34 ?_
      refine lv_iload_n S.1 S.2.1 dX2_become_37 rfl (lv_at hl 3 rfl) ?_
      obtain ⟨h5, hm⟩ := ck_ok hm
      refine g_iald S C (k := (x1 + 3)) (hL1).2.2.2 h5 dX2_become_38 ?_
      obtain ⟨r6, hcr6, hm⟩ := bd_ok hm
      refine gC_v C (gRV (k := x0) (ci := 2) (r := (RX2, TX2, 5)) (As := [.int x3, .int (M.1 (x1 + 1) x3.toNatClampNeg), .int (M.1 (x1 + 2) x3.toNatClampNeg), .int (M.1 (x1 + 3) x3.toNatClampNeg)]) (rest := []) 4 S C (c_X2_write l D cy ad M x0 hL0 x3 (M.1 (x1 + 1) x3.toNatClampNeg) (M.1 (x1 + 2) x3.toNatClampNeg) (M.1 (x1 + 3) x3.toNatClampNeg) r6 hcr6) gX2_become_X2_write rfl (by decide +kernel) (by decide) hL0.1 rfl rfl rfl hl.1 rfl (Nat.le_of_ble_eq_true rfl) dX2_become_39) (fun H locs C => ?_)
      obtain ⟨y7, ey7, hm⟩ := nmd_ok hm
      refine lv_iinc (v := y7) (lv' := [(3, .int y7), (0, .ref (ad x0)), (1, .ref (ad x1)), (2, .int x2)]) S.1 S.2.1 dX2_become_42 hl (k := 3) rfl (by rw [ey7]; rfl) (by decide) rfl (fun ls hl => ?_)
      refine lv_goto (tgt := 14) S.1 S.2.1 dX2_become_45 (by decide) ?_
      exact ih r6 _ _ C x0 hL0 x1 hL1 x2 y7 ls (lv_sub hl [1, 2, 3, 0] rfl) hm
set_option maxHeartbeats 4000000 in
set_option maxRecDepth 100000 in
theorem c_X2_become (l : Launch) (D : va_G) (cy : gCy) (ad : Nat → Nat) (M : gMem) (x0 : Nat) (hL0 : isL x0) (x1 : Nat) (hL1 : isL x1) (r0 : gMem) (hm : mX2_become M x0 x1 = some r0) : Met l yX2_become wsX2_become (gR 1 24) (va_Pc [.ref (ad x0), .ref (ad x1)] (gP shC D cy ad M)) (gQv shC D cy ad r0) 0 0 (gA shC ad) := by
  refine gEnter (cc := cX2_become) (maxL := 4) (ret := none) (by decide) rfl (Nat.le_of_ble_eq_true rfl) ?_
  intro p e s m below meth c ls S hr hlk C hl
  have S : CallFix p m c cX2_become 4 s _ wsX2_become RX2 := S
  have hl : lv_has ls 4 [(0, .ref (ad x0)), (1, .ref (ad x1))] := hl
  rw [mX2_become] at hm
  refine lv_aload_n S.1 S.2.1 dX2_become_0 rfl (lv_at hl 1 rfl) ?_
  refine g_get (k := x1) (ci := 2) (f := 4) (v := .int (M.1 x1 4))  S C kiX2_become_X2 kfX2_become_39 rfl (by decide) hL1.1 rfl rfl dX2_become_1 ?_
  refine lv_aload_n S.1 S.2.1 dX2_become_4 rfl (lv_at hl 0 rfl) ?_
  refine g_get (k := x0) (ci := 2) (f := 3) (v := .int (M.1 x0 3))  S C kiX2_become_X2 kfX2_become_15 rfl (by decide) hL0.1 rfl rfl dX2_become_5 ?_
  refine va_mmin S.1 S.2.1 (S.2.2.1.trans hl.1.symm) S.2.2.2.1 (S.2.2.2.2 _ kmX2_become_55l) (S.2.2.2.2 _ kmX2_become_55s) (S.2.2.2.2 _ kmX2_become_55i) (S.2.2.2.2 _ kmX2_become_55c) (rest := []) (Nat.le_of_ble_eq_true rfl) (Nat.le_of_ble_eq_true rfl) (Nat.le_refl _) (Nat.le_refl _) dX2_become_8 ?_
  obtain ⟨y1, ey1, hm⟩ := nmd_ok hm
  refine gNmI ey1 ?_
  refine lv_istore_n (lv' := [(2, .int y1), (0, .ref (ad x0)), (1, .ref (ad x1))]) S.1 S.2.1 dX2_become_11 rfl hl (by decide) rfl (fun ls hl => ?_)
  refine lv_iconst (v := (0 : Int32)) S.1 S.2.1 dX2_become_12 (by decide) ?_
  refine lv_istore_n (lv' := [(3, .int (0 : Int32)), (2, .int y1), (0, .ref (ad x0)), (1, .ref (ad x1))]) S.1 S.2.1 dX2_become_13 rfl hl (by decide) rfl (fun ls hl => ?_)
  exact wX2_become_14 S hr hlk FU M _ _ C x0 hL0 x1 hL1 y1 (0 : Int32) ls (lv_sub hl [2, 3, 1, 0] rfl) hm
def mX2_mixed (x0 : Int32) (x1 : Int32) (x2 : Int32) : Option Int32 := if x0 = 0 then (if x1 = (16 : Int32) then (some x2) else (some x1)) else (if x0 = (1 : Int32) then (if x1 = x2 then (some x1) else (some (16 : Int32))) else (if x2 = (16 : Int32) then (some x1) else (some (16 : Int32))))
set_option maxHeartbeats 4000000 in
set_option maxRecDepth 100000 in
theorem c_X2_mixed (l : Launch) (D : va_G) (cy : gCy) (ad : Nat → Nat) (M : gMem) (x0 : Int32) (x1 : Int32) (x2 : Int32) (r0 : Int32) (hm : mX2_mixed x0 x1 x2 = some r0) : Met l yX2_mixed wsX2_mixed (gR 0 0) (va_Pc [.int x0, .int x1, .int x2] (gP shC D cy ad M)) (gQi shC D cy ad r0 M) 0 0 (gA shC ad) := by
  refine gEnter (cc := cX2_mixed) (maxL := 3) (ret := (some .int)) (by decide) rfl (Nat.le_of_ble_eq_true rfl) ?_
  intro p e s m below meth c ls S hr hlk C hl
  have S : CallFix p m c cX2_mixed 3 s _ wsX2_mixed RX2 := S
  have hl : lv_has ls 3 [(0, .int x0), (1, .int x1), (2, .int x2)] := hl
  rw [mX2_mixed] at hm
  refine lv_iload_n S.1 S.2.1 dX2_mixed_0 rfl (lv_at hl 0 rfl) ?_
  refine lv_if_ne (tgt := 16) S.1 S.2.1 dX2_mixed_1 (by decide) (fun c1 => ?_) (fun c1 => ?_)
  · rw [if_neg c1] at hm
    refine lv_iload_n S.1 S.2.1 dX2_mixed_16 rfl (lv_at hl 0 rfl) ?_
    refine lv_iconst (v := (1 : Int32)) S.1 S.2.1 dX2_mixed_17 (by decide) ?_
    refine lv_icmp_ne (tgt := 33) S.1 S.2.1 dX2_mixed_18 (by decide) (fun c2 => ?_) (fun c2 => ?_)
    · rw [if_neg c2] at hm
      refine lv_iload_n S.1 S.2.1 dX2_mixed_33 rfl (lv_at hl 2 rfl) ?_
      refine lv_bipush (v := (16 : Int32)) S.1 S.2.1 dX2_mixed_34 (by decide) ?_
      refine lv_icmp_ne (tgt := 43) S.1 S.2.1 dX2_mixed_36 (by decide) (fun c3 => ?_) (fun c3 => ?_)
      · rw [if_neg c3] at hm
        refine lv_bipush (v := (16 : Int32)) S.1 S.2.1 dX2_mixed_43 (by decide) ?_
        exact gReti S hr hlk C (Option.some.inj hm) rfl dX2_mixed_45
      · rw [if_pos c3] at hm
        refine lv_iload_n S.1 S.2.1 dX2_mixed_39 rfl (lv_at hl 1 rfl) ?_
        refine lv_goto (tgt := 45) S.1 S.2.1 dX2_mixed_40 (by decide) ?_
        exact gReti S hr hlk C (Option.some.inj hm) rfl dX2_mixed_45
    · rw [if_pos c2] at hm
      refine lv_iload_n S.1 S.2.1 dX2_mixed_21 rfl (lv_at hl 1 rfl) ?_
      refine lv_iload_n S.1 S.2.1 dX2_mixed_22 rfl (lv_at hl 2 rfl) ?_
      refine lv_icmp_ne (tgt := 30) S.1 S.2.1 dX2_mixed_23 (by decide) (fun c4 => ?_) (fun c4 => ?_)
      · rw [if_neg c4] at hm
        refine lv_bipush (v := (16 : Int32)) S.1 S.2.1 dX2_mixed_30 (by decide) ?_
        exact gReti S hr hlk C (Option.some.inj hm) rfl dX2_mixed_32
      · rw [if_pos c4] at hm
        refine lv_iload_n S.1 S.2.1 dX2_mixed_26 rfl (lv_at hl 1 rfl) ?_
        refine lv_goto (tgt := 32) S.1 S.2.1 dX2_mixed_27 (by decide) ?_
        exact gReti S hr hlk C (Option.some.inj hm) rfl dX2_mixed_32
  · rw [if_pos c1] at hm
    refine lv_iload_n S.1 S.2.1 dX2_mixed_4 rfl (lv_at hl 1 rfl) ?_
    refine lv_bipush (v := (16 : Int32)) S.1 S.2.1 dX2_mixed_5 (by decide) ?_
    refine lv_icmp_eq (tgt := 14) S.1 S.2.1 dX2_mixed_7 (by decide) (fun c5 => ?_) (fun c5 => ?_)
    · rw [if_pos c5] at hm
      refine lv_iload_n S.1 S.2.1 dX2_mixed_14 rfl (lv_at hl 2 rfl) ?_
      exact gReti S hr hlk C (Option.some.inj hm) rfl dX2_mixed_15
    · rw [if_neg c5] at hm
      refine lv_iload_n S.1 S.2.1 dX2_mixed_10 rfl (lv_at hl 1 rfl) ?_
      refine lv_goto (tgt := 15) S.1 S.2.1 dX2_mixed_11 (by decide) ?_
      exact gReti S hr hlk C (Option.some.inj hm) rfl dX2_mixed_15
def mX2_merge_167 (k13 : gMem → Nat → Nat → Nat → Int32 → Int32 → Int32 → Int32 → Option gMem) (M : gMem) (x0 : Nat) (x1 : Nat) (x2 : Nat) (x3 : Int32) (x4 : Int32) (x5 : Int32) (x6 : Int32) (x8 : Int32) (x9 : Int32) : Option gMem := (mX2_goalAmong M x1 x4 x8).bind fun r1 => (mX2_goalAmong M x2 x5 x8).bind fun r2 => (mX2_mixed x3 r1 r2).bind fun r3 => (mX2_append M x0 x8 x9 r3).bind fun r4 => nmd (x6 + (1 : Int32)) fun y5 => k13 r4 x0 x1 x2 x3 x4 x5 y5
def mX2_merge_133 (k13 : gMem → Nat → Nat → Nat → Int32 → Int32 → Int32 → Int32 → Option gMem) (M : gMem) (x0 : Nat) (x1 : Nat) (x2 : Nat) (x3 : Int32) (x4 : Int32) (x5 : Int32) (x6 : Int32) (x8 : Int32) (z0 : Int32) : Option gMem := (mX2_isAt M x1 x4 x8 z0).bind fun r1 => if r1 = 0 then ((mX2_isAt M x2 x5 x8 z0).bind fun r3 => if r3 = 0 then (mX2_merge_167 k13 M x0 x1 x2 x3 x4 x5 x6 x8 z0) else (nmd (x5 + (1 : Int32)) fun y5 => mX2_merge_167 k13 M x0 x1 x2 x3 x4 y5 x6 x8 z0)) else (nmd (x4 + (1 : Int32)) fun y6 => (mX2_isAt M x2 x5 x8 z0).bind fun r7 => if r7 = 0 then (mX2_merge_167 k13 M x0 x1 x2 x3 y6 x5 x6 x8 z0) else (nmd (x5 + (1 : Int32)) fun y9 => mX2_merge_167 k13 M x0 x1 x2 x3 y6 y9 x6 x8 z0))
def mX2_merge_109 (k13 : gMem → Nat → Nat → Nat → Int32 → Int32 → Int32 → Int32 → Option gMem) (M : gMem) (x0 : Nat) (x1 : Nat) (x2 : Nat) (x3 : Int32) (x4 : Int32) (x5 : Int32) (x6 : Int32) (x7 : Int32) (z0 : Int32) : Option gMem := if x7 = 0 then (ck (inb x5 (lnOf x2)) <| mX2_merge_133 k13 M x0 x1 x2 x3 x4 x5 x6 z0 (M.1 (x2 + 2) x5.toNatClampNeg)) else (ck (inb x4 (lnOf x1)) <| mX2_merge_133 k13 M x0 x1 x2 x3 x4 x5 x6 z0 (M.1 (x1 + 2) x4.toNatClampNeg))
def mX2_merge_85 (k13 : gMem → Nat → Nat → Nat → Int32 → Int32 → Int32 → Int32 → Option gMem) (M : gMem) (x0 : Nat) (x1 : Nat) (x2 : Nat) (x3 : Int32) (x4 : Int32) (x5 : Int32) (x6 : Int32) (z0 : Int32) : Option gMem := if z0 = 0 then (ck (inb x5 (lnOf x2)) <| mX2_merge_109 k13 M x0 x1 x2 x3 x4 x5 x6 z0 (M.1 (x2 + 1) x5.toNatClampNeg)) else (ck (inb x4 (lnOf x1)) <| mX2_merge_109 k13 M x0 x1 x2 x3 x4 x5 x6 z0 (M.1 (x1 + 1) x4.toNatClampNeg))
def mX2_merge_39 (k13 : gMem → Nat → Nat → Nat → Int32 → Int32 → Int32 → Int32 → Option gMem) (M : gMem) (x0 : Nat) (x1 : Nat) (x2 : Nat) (x3 : Int32) (x4 : Int32) (x5 : Int32) (x6 : Int32) : Option gMem := if (M.1 x2 4) ≤ x5 then (mX2_merge_85 k13 M x0 x1 x2 x3 x4 x5 x6 (1 : Int32)) else (if (M.1 x1 4) ≤ x4 then (mX2_merge_85 k13 M x0 x1 x2 x3 x4 x5 x6 (0 : Int32)) else (ck (inb x4 (lnOf x1)) <| ck (inb x4 (lnOf x1)) <| (mX2_isAhead M x2 x5 (M.1 (x1 + 1) x4.toNatClampNeg) (M.1 (x1 + 2) x4.toNatClampNeg)).bind fun r5 => if r5 = 0 then (mX2_merge_85 k13 M x0 x1 x2 x3 x4 x5 x6 (1 : Int32)) else (mX2_merge_85 k13 M x0 x1 x2 x3 x4 x5 x6 (0 : Int32))))
def mX2_merge_13 : Nat → gMem → Nat → Nat → Nat → Int32 → Int32 → Int32 → Int32 → Option gMem
  | 0, _, _, _, _, _, _, _, _ => none
  | n + 1, M, x0, x1, x2, x3, x4, x5, x6 => if (128 : Int32) ≤ x6 then (some M) else (if x4 < (M.1 x1 4) then (mX2_merge_39 (mX2_merge_13 n) M x0 x1 x2 x3 x4 x5 x6) else (if (M.1 x2 4) ≤ x5 then (some M) else (mX2_merge_39 (mX2_merge_13 n) M x0 x1 x2 x3 x4 x5 x6)))
def mX2_merge (M : gMem) (x0 : Nat) (x1 : Nat) (x2 : Nat) (x3 : Int32) : Option gMem := (mX2_clear M x0).bind fun r1 => mX2_merge_13 FU r1 x0 x1 x2 x3 (0 : Int32) (0 : Int32) (0 : Int32)
set_option maxHeartbeats 4000000 in
set_option maxRecDepth 100000 in
theorem wX2_merge_167 {p : Program} {l : Launch} {e : Env} {s : State} {m : MethodId} {args : Array Value} {below : List Frame} {meth : Method} {c : Code} {D : va_G} {cy : gCy} {ad : Nat → Nat} {r0 : gMem} (S : CallFix p m c cX2_merge 10 s args wsX2_merge RX2) (hr : meth.sig.returnType = none) (hlk : meth.locks = false) {k13 : gMem → Nat → Nat → Nat → Int32 → Int32 → Int32 → Int32 → Option gMem} (kk13 : ∀ (M : gMem) (H : Heap) (locs : List Loc), gW shC D cy ad s s.heap M H locs → ∀ (x0 : Nat) (hL0 : isL x0) (x1 : Nat) (hL1 : isL x1) (x2 : Nat) (hL2 : isL x2) (x3 : Int32) (x4 : Int32) (x5 : Int32) (x6 : Int32), ∀ (ls : Array Slot), lv_has ls 10 [(0, .ref (ad x0)), (1, .ref (ad x1)), (2, .ref (ad x2)), (3, .int x3), (4, .int x4), (5, .int x5), (6, .int x6)] → k13 M x0 x1 x2 x3 x4 x5 x6 = some r0 → W p l e (gR 5 111) s m args below meth c H locs 0 0 (MQ below (gQv shC D cy ad r0) args s 0 0 (gA shC ad)) (F0 m 13 ls [])) : ∀ (M : gMem) (H : Heap) (locs : List Loc), gW shC D cy ad s s.heap M H locs → ∀ (x0 : Nat) (hL0 : isL x0) (x1 : Nat) (hL1 : isL x1) (x2 : Nat) (hL2 : isL x2) (x3 : Int32) (x4 : Int32) (x5 : Int32) (x6 : Int32) (x8 : Int32) (x9 : Int32), ∀ (ls : Array Slot), lv_has ls 10 [(0, .ref (ad x0)), (1, .ref (ad x1)), (2, .ref (ad x2)), (3, .int x3), (4, .int x4), (5, .int x5), (6, .int x6), (8, .int x8), (9, .int x9)] → mX2_merge_167 k13 M x0 x1 x2 x3 x4 x5 x6 x8 x9 = some r0 → W p l e (gR 5 111) s m args below meth c H locs 0 0 (MQ below (gQv shC D cy ad r0) args s 0 0 (gA shC ad)) (F0 m 167 ls []) := by
  intro M H locs C x0 hL0 x1 hL1 x2 hL2 x3 x4 x5 x6 x8 x9 ls hl hm
  rw [mX2_merge_167] at hm
  refine lv_aload_n S.1 S.2.1 dX2_merge_167 rfl (lv_at hl 0 rfl) ?_
  refine lv_iload S.1 S.2.1 dX2_merge_168 (lv_at hl 7 rfl) ?_
  refine lv_iload S.1 S.2.1 dX2_merge_170 (lv_at hl 8 rfl) ?_
  refine lv_iload_n S.1 S.2.1 dX2_merge_172 rfl (lv_at hl 3 rfl) ?_
  refine lv_aload_n S.1 S.2.1 dX2_merge_173 rfl (lv_at hl 1 rfl) ?_
  refine lv_iload S.1 S.2.1 dX2_merge_174 (lv_at hl 4 rfl) ?_
  refine lv_iload S.1 S.2.1 dX2_merge_176 (lv_at hl 7 rfl) ?_
  obtain ⟨r1, hcr1, hm⟩ := bd_ok hm
  refine gC_i C (gRV (k := x1) (ci := 2) (r := (RX2, TX2, 5)) (As := [.int x4, .int x8]) (rest := [.int x3, .int x9, .int x8, .ref (ad x0)]) 2 S C (c_X2_goalAmong l D cy ad M x1 hL1 x4 x8 r1 hcr1) gX2_merge_X2_goalAmong rfl (by decide +kernel) (by decide) hL1.1 rfl rfl rfl hl.1 rfl (Nat.le_of_ble_eq_true rfl) dX2_merge_178) (fun H locs C => ?_)
  refine lv_aload_n S.1 S.2.1 dX2_merge_181 rfl (lv_at hl 2 rfl) ?_
  refine lv_iload S.1 S.2.1 dX2_merge_182 (lv_at hl 5 rfl) ?_
  refine lv_iload S.1 S.2.1 dX2_merge_184 (lv_at hl 7 rfl) ?_
  obtain ⟨r2, hcr2, hm⟩ := bd_ok hm
  refine gC_i C (gRV (k := x2) (ci := 2) (r := (RX2, TX2, 5)) (As := [.int x5, .int x8]) (rest := [.int r1, .int x3, .int x9, .int x8, .ref (ad x0)]) 2 S C (c_X2_goalAmong l D cy ad M x2 hL2 x5 x8 r2 hcr2) gX2_merge_X2_goalAmong rfl (by decide +kernel) (by decide) hL2.1 rfl rfl rfl hl.1 rfl (Nat.le_of_ble_eq_true rfl) dX2_merge_186) (fun H locs C => ?_)
  obtain ⟨r3, hcr3, hm⟩ := bd_ok hm
  refine gC_i C (gRS (As := [.int x3, .int r1, .int r2]) (rest := [.int x9, .int x8, .ref (ad x0)]) 3 S C (c_X2_mixed l D cy ad M x3 r1 r2 r3 hcr3) gX2_merge_X2_mixed rfl (by decide +kernel) (by decide) rfl hl.1 rfl (Nat.le_of_ble_eq_true rfl) dX2_merge_189) (fun H locs C => ?_)
  obtain ⟨r4, hcr4, hm⟩ := bd_ok hm
  refine gC_v C (gRV (k := x0) (ci := 2) (r := (RX2, TX2, 5)) (As := [.int x8, .int x9, .int r3]) (rest := []) 3 S C (c_X2_append l D cy ad M x0 hL0 x8 x9 r3 r4 hcr4) gX2_merge_X2_append rfl (by decide +kernel) (by decide) hL0.1 rfl rfl rfl hl.1 rfl (Nat.le_of_ble_eq_true rfl) dX2_merge_192) (fun H locs C => ?_)
  obtain ⟨y5, ey5, hm⟩ := nmd_ok hm
  refine lv_iinc (v := y5) (lv' := [(6, .int y5), (0, .ref (ad x0)), (1, .ref (ad x1)), (2, .ref (ad x2)), (3, .int x3), (4, .int x4), (5, .int x5), (8, .int x8), (9, .int x9)]) S.1 S.2.1 dX2_merge_195 hl (k := 6) rfl (by rw [ey5]; rfl) (by decide) rfl (fun ls hl => ?_)
  refine lv_goto (tgt := 13) S.1 S.2.1 dX2_merge_198 (by decide) ?_
  exact kk13 r4 _ _ C x0 hL0 x1 hL1 x2 hL2 x3 x4 x5 y5 ls (lv_sub hl [1, 2, 3, 4, 5, 6, 0] rfl) hm
set_option maxHeartbeats 4000000 in
set_option maxRecDepth 100000 in
theorem wX2_merge_133 {p : Program} {l : Launch} {e : Env} {s : State} {m : MethodId} {args : Array Value} {below : List Frame} {meth : Method} {c : Code} {D : va_G} {cy : gCy} {ad : Nat → Nat} {r0 : gMem} (S : CallFix p m c cX2_merge 10 s args wsX2_merge RX2) (hr : meth.sig.returnType = none) (hlk : meth.locks = false) {k13 : gMem → Nat → Nat → Nat → Int32 → Int32 → Int32 → Int32 → Option gMem} (kk13 : ∀ (M : gMem) (H : Heap) (locs : List Loc), gW shC D cy ad s s.heap M H locs → ∀ (x0 : Nat) (hL0 : isL x0) (x1 : Nat) (hL1 : isL x1) (x2 : Nat) (hL2 : isL x2) (x3 : Int32) (x4 : Int32) (x5 : Int32) (x6 : Int32), ∀ (ls : Array Slot), lv_has ls 10 [(0, .ref (ad x0)), (1, .ref (ad x1)), (2, .ref (ad x2)), (3, .int x3), (4, .int x4), (5, .int x5), (6, .int x6)] → k13 M x0 x1 x2 x3 x4 x5 x6 = some r0 → W p l e (gR 5 111) s m args below meth c H locs 0 0 (MQ below (gQv shC D cy ad r0) args s 0 0 (gA shC ad)) (F0 m 13 ls [])) : ∀ (M : gMem) (H : Heap) (locs : List Loc), gW shC D cy ad s s.heap M H locs → ∀ (x0 : Nat) (hL0 : isL x0) (x1 : Nat) (hL1 : isL x1) (x2 : Nat) (hL2 : isL x2) (x3 : Int32) (x4 : Int32) (x5 : Int32) (x6 : Int32) (x8 : Int32) (z0 : Int32), ∀ (ls : Array Slot), lv_has ls 10 [(0, .ref (ad x0)), (1, .ref (ad x1)), (2, .ref (ad x2)), (3, .int x3), (4, .int x4), (5, .int x5), (6, .int x6), (8, .int x8)] → mX2_merge_133 k13 M x0 x1 x2 x3 x4 x5 x6 x8 z0 = some r0 → W p l e (gR 5 111) s m args below meth c H locs 0 0 (MQ below (gQv shC D cy ad r0) args s 0 0 (gA shC ad)) (F0 m 133 ls [.int z0]) := by
  intro M H locs C x0 hL0 x1 hL1 x2 hL2 x3 x4 x5 x6 x8 z0 ls hl hm
  rw [mX2_merge_133] at hm
  refine lv_istore (lv' := [(9, .int z0), (0, .ref (ad x0)), (1, .ref (ad x1)), (2, .ref (ad x2)), (3, .int x3), (4, .int x4), (5, .int x5), (6, .int x6), (8, .int x8)]) S.1 S.2.1 dX2_merge_133 hl (by decide) rfl (fun ls hl => ?_)
  refine lv_aload_n S.1 S.2.1 dX2_merge_135 rfl (lv_at hl 2 rfl) ?_
  refine lv_iload S.1 S.2.1 dX2_merge_136 (lv_at hl 5 rfl) ?_
  refine lv_iload S.1 S.2.1 dX2_merge_138 (lv_at hl 8 rfl) ?_
  refine lv_iload S.1 S.2.1 dX2_merge_140 (lv_at hl 0 rfl) ?_
  obtain ⟨r1, hcr1, hm⟩ := bd_ok hm
  refine gC_i C (gRV (k := x1) (ci := 2) (r := (RX2, TX2, 5)) (As := [.int x4, .int x8, .int z0]) (rest := []) 3 S C (c_X2_isAt l D cy ad M x1 hL1 x4 x8 z0 r1 hcr1) gX2_merge_X2_isAt rfl (by decide +kernel) (by decide) hL1.1 rfl rfl rfl hl.1 rfl (Nat.le_of_ble_eq_true rfl) dX2_merge_142) (fun H locs C => ?_)
  refine lv_if_eq (tgt := 151) S.1 S.2.1 dX2_merge_145 (by decide) (fun c2 => ?_) (fun c2 => ?_)
  · rw [if_pos c2] at hm
    refine lv_aload_n S.1 S.2.1 dX2_merge_151 rfl (lv_at hl 3 rfl) ?_
    refine lv_iload S.1 S.2.1 dX2_merge_152 (lv_at hl 6 rfl) ?_
    refine lv_iload S.1 S.2.1 dX2_merge_154 (lv_at hl 8 rfl) ?_
    refine lv_iload S.1 S.2.1 dX2_merge_156 (lv_at hl 0 rfl) ?_
    obtain ⟨r3, hcr3, hm⟩ := bd_ok hm
    refine gC_i C (gRV (k := x2) (ci := 2) (r := (RX2, TX2, 5)) (As := [.int x5, .int x8, .int z0]) (rest := []) 3 S C (c_X2_isAt l D cy ad M x2 hL2 x5 x8 z0 r3 hcr3) gX2_merge_X2_isAt rfl (by decide +kernel) (by decide) hL2.1 rfl rfl rfl hl.1 rfl (Nat.le_of_ble_eq_true rfl) dX2_merge_158) (fun H locs C => ?_)
    refine lv_if_eq (tgt := 167) S.1 S.2.1 dX2_merge_161 (by decide) (fun c4 => ?_) (fun c4 => ?_)
    · rw [if_pos c4] at hm
      exact wX2_merge_167 S hr hlk kk13 M _ _ C x0 hL0 x1 hL1 x2 hL2 x3 x4 x5 x6 x8 z0 ls (lv_sub hl [1, 2, 3, 4, 5, 6, 7, 8, 0] rfl) hm
    · rw [if_neg c4] at hm
      obtain ⟨y5, ey5, hm⟩ := nmd_ok hm
      refine lv_iinc (v := y5) (lv' := [(5, .int y5), (9, .int z0), (0, .ref (ad x0)), (1, .ref (ad x1)), (2, .ref (ad x2)), (3, .int x3), (4, .int x4), (6, .int x6), (8, .int x8)]) S.1 S.2.1 dX2_merge_164 hl (k := 6) rfl (by rw [ey5]; rfl) (by decide) rfl (fun ls hl => ?_)
      exact wX2_merge_167 S hr hlk kk13 M _ _ C x0 hL0 x1 hL1 x2 hL2 x3 x4 y5 x6 x8 z0 ls (lv_sub hl [2, 3, 4, 5, 6, 0, 7, 8, 1] rfl) hm
  · rw [if_neg c2] at hm
    obtain ⟨y6, ey6, hm⟩ := nmd_ok hm
    refine lv_iinc (v := y6) (lv' := [(4, .int y6), (9, .int z0), (0, .ref (ad x0)), (1, .ref (ad x1)), (2, .ref (ad x2)), (3, .int x3), (5, .int x5), (6, .int x6), (8, .int x8)]) S.1 S.2.1 dX2_merge_148 hl (k := 5) rfl (by rw [ey6]; rfl) (by decide) rfl (fun ls hl => ?_)
    refine lv_aload_n S.1 S.2.1 dX2_merge_151 rfl (lv_at hl 4 rfl) ?_
    refine lv_iload S.1 S.2.1 dX2_merge_152 (lv_at hl 6 rfl) ?_
    refine lv_iload S.1 S.2.1 dX2_merge_154 (lv_at hl 8 rfl) ?_
    refine lv_iload S.1 S.2.1 dX2_merge_156 (lv_at hl 1 rfl) ?_
    obtain ⟨r7, hcr7, hm⟩ := bd_ok hm
    refine gC_i C (gRV (k := x2) (ci := 2) (r := (RX2, TX2, 5)) (As := [.int x5, .int x8, .int z0]) (rest := []) 3 S C (c_X2_isAt l D cy ad M x2 hL2 x5 x8 z0 r7 hcr7) gX2_merge_X2_isAt rfl (by decide +kernel) (by decide) hL2.1 rfl rfl rfl hl.1 rfl (Nat.le_of_ble_eq_true rfl) dX2_merge_158) (fun H locs C => ?_)
    refine lv_if_eq (tgt := 167) S.1 S.2.1 dX2_merge_161 (by decide) (fun c8 => ?_) (fun c8 => ?_)
    · rw [if_pos c8] at hm
      exact wX2_merge_167 S hr hlk kk13 M _ _ C x0 hL0 x1 hL1 x2 hL2 x3 y6 x5 x6 x8 z0 ls (lv_sub hl [2, 3, 4, 5, 0, 6, 7, 8, 1] rfl) hm
    · rw [if_neg c8] at hm
      obtain ⟨y9, ey9, hm⟩ := nmd_ok hm
      refine lv_iinc (v := y9) (lv' := [(5, .int y9), (4, .int y6), (9, .int z0), (0, .ref (ad x0)), (1, .ref (ad x1)), (2, .ref (ad x2)), (3, .int x3), (6, .int x6), (8, .int x8)]) S.1 S.2.1 dX2_merge_164 hl (k := 6) rfl (by rw [ey9]; rfl) (by decide) rfl (fun ls hl => ?_)
      exact wX2_merge_167 S hr hlk kk13 M _ _ C x0 hL0 x1 hL1 x2 hL2 x3 y6 y9 x6 x8 z0 ls (lv_sub hl [3, 4, 5, 6, 1, 0, 7, 8, 2] rfl) hm
set_option maxHeartbeats 4000000 in
set_option maxRecDepth 100000 in
theorem wX2_merge_109 {p : Program} {l : Launch} {e : Env} {s : State} {m : MethodId} {args : Array Value} {below : List Frame} {meth : Method} {c : Code} {D : va_G} {cy : gCy} {ad : Nat → Nat} {r0 : gMem} (S : CallFix p m c cX2_merge 10 s args wsX2_merge RX2) (hr : meth.sig.returnType = none) (hlk : meth.locks = false) {k13 : gMem → Nat → Nat → Nat → Int32 → Int32 → Int32 → Int32 → Option gMem} (kk13 : ∀ (M : gMem) (H : Heap) (locs : List Loc), gW shC D cy ad s s.heap M H locs → ∀ (x0 : Nat) (hL0 : isL x0) (x1 : Nat) (hL1 : isL x1) (x2 : Nat) (hL2 : isL x2) (x3 : Int32) (x4 : Int32) (x5 : Int32) (x6 : Int32), ∀ (ls : Array Slot), lv_has ls 10 [(0, .ref (ad x0)), (1, .ref (ad x1)), (2, .ref (ad x2)), (3, .int x3), (4, .int x4), (5, .int x5), (6, .int x6)] → k13 M x0 x1 x2 x3 x4 x5 x6 = some r0 → W p l e (gR 5 111) s m args below meth c H locs 0 0 (MQ below (gQv shC D cy ad r0) args s 0 0 (gA shC ad)) (F0 m 13 ls [])) : ∀ (M : gMem) (H : Heap) (locs : List Loc), gW shC D cy ad s s.heap M H locs → ∀ (x0 : Nat) (hL0 : isL x0) (x1 : Nat) (hL1 : isL x1) (x2 : Nat) (hL2 : isL x2) (x3 : Int32) (x4 : Int32) (x5 : Int32) (x6 : Int32) (x7 : Int32) (z0 : Int32), ∀ (ls : Array Slot), lv_has ls 10 [(0, .ref (ad x0)), (1, .ref (ad x1)), (2, .ref (ad x2)), (3, .int x3), (4, .int x4), (5, .int x5), (6, .int x6), (7, .int x7)] → mX2_merge_109 k13 M x0 x1 x2 x3 x4 x5 x6 x7 z0 = some r0 → W p l e (gR 5 111) s m args below meth c H locs 0 0 (MQ below (gQv shC D cy ad r0) args s 0 0 (gA shC ad)) (F0 m 109 ls [.int z0]) := by
  intro M H locs C x0 hL0 x1 hL1 x2 hL2 x3 x4 x5 x6 x7 z0 ls hl hm
  rw [mX2_merge_109] at hm
  refine lv_istore (lv' := [(8, .int z0), (0, .ref (ad x0)), (1, .ref (ad x1)), (2, .ref (ad x2)), (3, .int x3), (4, .int x4), (5, .int x5), (6, .int x6), (7, .int x7)]) S.1 S.2.1 dX2_merge_109 hl (by decide) rfl (fun ls hl => ?_)
  refine lv_iload S.1 S.2.1 dX2_merge_111 (lv_at hl 8 rfl) ?_
  refine lv_if_eq (tgt := 126) S.1 S.2.1 dX2_merge_113 (by decide) (fun c1 => ?_) (fun c1 => ?_)
  · rw [if_pos c1] at hm
    refine lv_aload_n S.1 S.2.1 dX2_merge_126 rfl (lv_at hl 3 rfl) ?_
    refine g_get (k := x2) (ci := 2) (f := 1) (v := .ref (ad (x2 + 2)))  S C kiX2_merge_X2 kfX2_merge_25 rfl (by decide) hL2.1 rfl rfl dX2_merge_127 ?_
    refine lv_iload S.1 S.2.1 dX2_merge_130 (lv_at hl 6 rfl) ?_
    obtain ⟨h2, hm⟩ := ck_ok hm
    refine g_iald S C (k := (x2 + 2)) (hL2).2.2.1 h2 dX2_merge_132 ?_
    exact wX2_merge_133 S hr hlk kk13 M _ _ C x0 hL0 x1 hL1 x2 hL2 x3 x4 x5 x6 z0 (M.1 (x2 + 2) x5.toNatClampNeg) ls (lv_sub hl [1, 2, 3, 4, 5, 6, 7, 0] rfl) hm
  · rw [if_neg c1] at hm
    refine lv_aload_n S.1 S.2.1 dX2_merge_116 rfl (lv_at hl 2 rfl) ?_
    refine g_get (k := x1) (ci := 2) (f := 1) (v := .ref (ad (x1 + 2)))  S C kiX2_merge_X2 kfX2_merge_25 rfl (by decide) hL1.1 rfl rfl dX2_merge_117 ?_
    refine lv_iload S.1 S.2.1 dX2_merge_120 (lv_at hl 5 rfl) ?_
    obtain ⟨h3, hm⟩ := ck_ok hm
    refine g_iald S C (k := (x1 + 2)) (hL1).2.2.1 h3 dX2_merge_122 ?_
    refine lv_goto (tgt := 133) S.1 S.2.1 dX2_merge_123 (by decide) ?_
    exact wX2_merge_133 S hr hlk kk13 M _ _ C x0 hL0 x1 hL1 x2 hL2 x3 x4 x5 x6 z0 (M.1 (x1 + 2) x4.toNatClampNeg) ls (lv_sub hl [1, 2, 3, 4, 5, 6, 7, 0] rfl) hm
set_option maxHeartbeats 4000000 in
set_option maxRecDepth 100000 in
theorem wX2_merge_85 {p : Program} {l : Launch} {e : Env} {s : State} {m : MethodId} {args : Array Value} {below : List Frame} {meth : Method} {c : Code} {D : va_G} {cy : gCy} {ad : Nat → Nat} {r0 : gMem} (S : CallFix p m c cX2_merge 10 s args wsX2_merge RX2) (hr : meth.sig.returnType = none) (hlk : meth.locks = false) {k13 : gMem → Nat → Nat → Nat → Int32 → Int32 → Int32 → Int32 → Option gMem} (kk13 : ∀ (M : gMem) (H : Heap) (locs : List Loc), gW shC D cy ad s s.heap M H locs → ∀ (x0 : Nat) (hL0 : isL x0) (x1 : Nat) (hL1 : isL x1) (x2 : Nat) (hL2 : isL x2) (x3 : Int32) (x4 : Int32) (x5 : Int32) (x6 : Int32), ∀ (ls : Array Slot), lv_has ls 10 [(0, .ref (ad x0)), (1, .ref (ad x1)), (2, .ref (ad x2)), (3, .int x3), (4, .int x4), (5, .int x5), (6, .int x6)] → k13 M x0 x1 x2 x3 x4 x5 x6 = some r0 → W p l e (gR 5 111) s m args below meth c H locs 0 0 (MQ below (gQv shC D cy ad r0) args s 0 0 (gA shC ad)) (F0 m 13 ls [])) : ∀ (M : gMem) (H : Heap) (locs : List Loc), gW shC D cy ad s s.heap M H locs → ∀ (x0 : Nat) (hL0 : isL x0) (x1 : Nat) (hL1 : isL x1) (x2 : Nat) (hL2 : isL x2) (x3 : Int32) (x4 : Int32) (x5 : Int32) (x6 : Int32) (z0 : Int32), ∀ (ls : Array Slot), lv_has ls 10 [(0, .ref (ad x0)), (1, .ref (ad x1)), (2, .ref (ad x2)), (3, .int x3), (4, .int x4), (5, .int x5), (6, .int x6)] → mX2_merge_85 k13 M x0 x1 x2 x3 x4 x5 x6 z0 = some r0 → W p l e (gR 5 111) s m args below meth c H locs 0 0 (MQ below (gQv shC D cy ad r0) args s 0 0 (gA shC ad)) (F0 m 85 ls [.int z0]) := by
  intro M H locs C x0 hL0 x1 hL1 x2 hL2 x3 x4 x5 x6 z0 ls hl hm
  rw [mX2_merge_85] at hm
  refine lv_istore (lv' := [(7, .int z0), (0, .ref (ad x0)), (1, .ref (ad x1)), (2, .ref (ad x2)), (3, .int x3), (4, .int x4), (5, .int x5), (6, .int x6)]) S.1 S.2.1 dX2_merge_85 hl (by decide) rfl (fun ls hl => ?_)
  refine lv_iload S.1 S.2.1 dX2_merge_87 (lv_at hl 0 rfl) ?_
  refine lv_if_eq (tgt := 102) S.1 S.2.1 dX2_merge_89 (by decide) (fun c1 => ?_) (fun c1 => ?_)
  · rw [if_pos c1] at hm
    refine lv_aload_n S.1 S.2.1 dX2_merge_102 rfl (lv_at hl 3 rfl) ?_
    refine g_get (k := x2) (ci := 2) (f := 0) (v := .ref (ad (x2 + 1)))  S C kiX2_merge_X2 kfX2_merge_21 rfl (by decide) hL2.1 rfl rfl dX2_merge_103 ?_
    refine lv_iload S.1 S.2.1 dX2_merge_106 (lv_at hl 6 rfl) ?_
    obtain ⟨h2, hm⟩ := ck_ok hm
    refine g_iald S C (k := (x2 + 1)) (hL2).2.1 h2 dX2_merge_108 ?_
    exact wX2_merge_109 S hr hlk kk13 M _ _ C x0 hL0 x1 hL1 x2 hL2 x3 x4 x5 x6 z0 (M.1 (x2 + 1) x5.toNatClampNeg) ls (lv_sub hl [1, 2, 3, 4, 5, 6, 7, 0] rfl) hm
  · rw [if_neg c1] at hm
    refine lv_aload_n S.1 S.2.1 dX2_merge_92 rfl (lv_at hl 2 rfl) ?_
    refine g_get (k := x1) (ci := 2) (f := 0) (v := .ref (ad (x1 + 1)))  S C kiX2_merge_X2 kfX2_merge_21 rfl (by decide) hL1.1 rfl rfl dX2_merge_93 ?_
    refine lv_iload S.1 S.2.1 dX2_merge_96 (lv_at hl 5 rfl) ?_
    obtain ⟨h3, hm⟩ := ck_ok hm
    refine g_iald S C (k := (x1 + 1)) (hL1).2.1 h3 dX2_merge_98 ?_
    refine lv_goto (tgt := 109) S.1 S.2.1 dX2_merge_99 (by decide) ?_
    exact wX2_merge_109 S hr hlk kk13 M _ _ C x0 hL0 x1 hL1 x2 hL2 x3 x4 x5 x6 z0 (M.1 (x1 + 1) x4.toNatClampNeg) ls (lv_sub hl [1, 2, 3, 4, 5, 6, 7, 0] rfl) hm
set_option maxHeartbeats 4000000 in
set_option maxRecDepth 100000 in
theorem wX2_merge_39 {p : Program} {l : Launch} {e : Env} {s : State} {m : MethodId} {args : Array Value} {below : List Frame} {meth : Method} {c : Code} {D : va_G} {cy : gCy} {ad : Nat → Nat} {r0 : gMem} (S : CallFix p m c cX2_merge 10 s args wsX2_merge RX2) (hr : meth.sig.returnType = none) (hlk : meth.locks = false) {k13 : gMem → Nat → Nat → Nat → Int32 → Int32 → Int32 → Int32 → Option gMem} (kk13 : ∀ (M : gMem) (H : Heap) (locs : List Loc), gW shC D cy ad s s.heap M H locs → ∀ (x0 : Nat) (hL0 : isL x0) (x1 : Nat) (hL1 : isL x1) (x2 : Nat) (hL2 : isL x2) (x3 : Int32) (x4 : Int32) (x5 : Int32) (x6 : Int32), ∀ (ls : Array Slot), lv_has ls 10 [(0, .ref (ad x0)), (1, .ref (ad x1)), (2, .ref (ad x2)), (3, .int x3), (4, .int x4), (5, .int x5), (6, .int x6)] → k13 M x0 x1 x2 x3 x4 x5 x6 = some r0 → W p l e (gR 5 111) s m args below meth c H locs 0 0 (MQ below (gQv shC D cy ad r0) args s 0 0 (gA shC ad)) (F0 m 13 ls [])) : ∀ (M : gMem) (H : Heap) (locs : List Loc), gW shC D cy ad s s.heap M H locs → ∀ (x0 : Nat) (hL0 : isL x0) (x1 : Nat) (hL1 : isL x1) (x2 : Nat) (hL2 : isL x2) (x3 : Int32) (x4 : Int32) (x5 : Int32) (x6 : Int32), ∀ (ls : Array Slot), lv_has ls 10 [(0, .ref (ad x0)), (1, .ref (ad x1)), (2, .ref (ad x2)), (3, .int x3), (4, .int x4), (5, .int x5), (6, .int x6)] → mX2_merge_39 k13 M x0 x1 x2 x3 x4 x5 x6 = some r0 → W p l e (gR 5 111) s m args below meth c H locs 0 0 (MQ below (gQv shC D cy ad r0) args s 0 0 (gA shC ad)) (F0 m 39 ls []) := by
  intro M H locs C x0 hL0 x1 hL1 x2 hL2 x3 x4 x5 x6 ls hl hm
  rw [mX2_merge_39] at hm
  refine lv_iload S.1 S.2.1 dX2_merge_39 (lv_at hl 5 rfl) ?_
  refine lv_aload_n S.1 S.2.1 dX2_merge_41 rfl (lv_at hl 2 rfl) ?_
  refine g_get (k := x2) (ci := 2) (f := 4) (v := .int (M.1 x2 4))  S C kiX2_merge_X2 kfX2_merge_39 rfl (by decide) hL2.1 rfl rfl dX2_merge_42 ?_
  refine lv_icmp_ge (tgt := 80) S.1 S.2.1 dX2_merge_45 (by decide) (fun c1 => ?_) (fun c1 => ?_)
  · rw [if_pos c1] at hm
    refine lv_iconst (v := (1 : Int32)) S.1 S.2.1 dX2_merge_80 (by decide) ?_
    refine lv_goto (tgt := 85) S.1 S.2.1 dX2_merge_81 (by decide) ?_
    exact wX2_merge_85 S hr hlk kk13 M _ _ C x0 hL0 x1 hL1 x2 hL2 x3 x4 x5 x6 (1 : Int32) ls (lv_sub hl [0, 1, 2, 3, 4, 5, 6] rfl) hm
  · rw [if_neg c1] at hm
    refine lv_iload S.1 S.2.1 dX2_merge_48 (lv_at hl 4 rfl) ?_
    refine lv_aload_n S.1 S.2.1 dX2_merge_50 rfl (lv_at hl 1 rfl) ?_
    refine g_get (k := x1) (ci := 2) (f := 4) (v := .int (M.1 x1 4))  S C kiX2_merge_X2 kfX2_merge_39 rfl (by decide) hL1.1 rfl rfl dX2_merge_51 ?_
    refine lv_icmp_ge (tgt := 84) S.1 S.2.1 dX2_merge_54 (by decide) (fun c2 => ?_) (fun c2 => ?_)
    · rw [if_pos c2] at hm
      refine lv_iconst (v := (0 : Int32)) S.1 S.2.1 dX2_merge_84 (by decide) ?_
      exact wX2_merge_85 S hr hlk kk13 M _ _ C x0 hL0 x1 hL1 x2 hL2 x3 x4 x5 x6 (0 : Int32) ls (lv_sub hl [0, 1, 2, 3, 4, 5, 6] rfl) hm
    · rw [if_neg c2] at hm
      refine lv_aload_n S.1 S.2.1 dX2_merge_57 rfl (lv_at hl 2 rfl) ?_
      refine lv_iload S.1 S.2.1 dX2_merge_58 (lv_at hl 5 rfl) ?_
      refine lv_aload_n S.1 S.2.1 dX2_merge_60 rfl (lv_at hl 1 rfl) ?_
      refine g_get (k := x1) (ci := 2) (f := 0) (v := .ref (ad (x1 + 1)))  S C kiX2_merge_X2 kfX2_merge_21 rfl (by decide) hL1.1 rfl rfl dX2_merge_61 ?_
      refine lv_iload S.1 S.2.1 dX2_merge_64 (lv_at hl 4 rfl) ?_
      obtain ⟨h3, hm⟩ := ck_ok hm
      refine g_iald S C (k := (x1 + 1)) (hL1).2.1 h3 dX2_merge_66 ?_
      refine lv_aload_n S.1 S.2.1 dX2_merge_67 rfl (lv_at hl 1 rfl) ?_
      refine g_get (k := x1) (ci := 2) (f := 1) (v := .ref (ad (x1 + 2)))  S C kiX2_merge_X2 kfX2_merge_25 rfl (by decide) hL1.1 rfl rfl dX2_merge_68 ?_
      refine lv_iload S.1 S.2.1 dX2_merge_71 (lv_at hl 4 rfl) ?_
      obtain ⟨h4, hm⟩ := ck_ok hm
      refine g_iald S C (k := (x1 + 2)) (hL1).2.2.1 h4 dX2_merge_73 ?_
      obtain ⟨r5, hcr5, hm⟩ := bd_ok hm
      refine gC_i C (gRV (k := x2) (ci := 2) (r := (RX2, TX2, 5)) (As := [.int x5, .int (M.1 (x1 + 1) x4.toNatClampNeg), .int (M.1 (x1 + 2) x4.toNatClampNeg)]) (rest := []) 3 S C (c_X2_isAhead l D cy ad M x2 hL2 x5 (M.1 (x1 + 1) x4.toNatClampNeg) (M.1 (x1 + 2) x4.toNatClampNeg) r5 hcr5) gX2_merge_X2_isAhead rfl (by decide +kernel) (by decide) hL2.1 rfl rfl rfl hl.1 rfl (Nat.le_of_ble_eq_true rfl) dX2_merge_74) (fun H locs C => ?_)
      refine lv_if_ne (tgt := 84) S.1 S.2.1 dX2_merge_77 (by decide) (fun c6 => ?_) (fun c6 => ?_)
      · rw [if_neg c6] at hm
        refine lv_iconst (v := (0 : Int32)) S.1 S.2.1 dX2_merge_84 (by decide) ?_
        exact wX2_merge_85 S hr hlk kk13 M _ _ C x0 hL0 x1 hL1 x2 hL2 x3 x4 x5 x6 (0 : Int32) ls (lv_sub hl [0, 1, 2, 3, 4, 5, 6] rfl) hm
      · rw [if_pos c6] at hm
        refine lv_iconst (v := (1 : Int32)) S.1 S.2.1 dX2_merge_80 (by decide) ?_
        refine lv_goto (tgt := 85) S.1 S.2.1 dX2_merge_81 (by decide) ?_
        exact wX2_merge_85 S hr hlk kk13 M _ _ C x0 hL0 x1 hL1 x2 hL2 x3 x4 x5 x6 (1 : Int32) ls (lv_sub hl [0, 1, 2, 3, 4, 5, 6] rfl) hm
set_option maxHeartbeats 4000000 in
set_option maxRecDepth 100000 in
theorem wX2_merge_13 {p : Program} {l : Launch} {e : Env} {s : State} {m : MethodId} {args : Array Value} {below : List Frame} {meth : Method} {c : Code} {D : va_G} {cy : gCy} {ad : Nat → Nat} {r0 : gMem} (S : CallFix p m c cX2_merge 10 s args wsX2_merge RX2) (hr : meth.sig.returnType = none) (hlk : meth.locks = false) : ∀ (n : Nat), ∀ (M : gMem) (H : Heap) (locs : List Loc), gW shC D cy ad s s.heap M H locs → ∀ (x0 : Nat) (hL0 : isL x0) (x1 : Nat) (hL1 : isL x1) (x2 : Nat) (hL2 : isL x2) (x3 : Int32) (x4 : Int32) (x5 : Int32) (x6 : Int32), ∀ (ls : Array Slot), lv_has ls 10 [(0, .ref (ad x0)), (1, .ref (ad x1)), (2, .ref (ad x2)), (3, .int x3), (4, .int x4), (5, .int x5), (6, .int x6)] → mX2_merge_13 n M x0 x1 x2 x3 x4 x5 x6 = some r0 → W p l e (gR 5 111) s m args below meth c H locs 0 0 (MQ below (gQv shC D cy ad r0) args s 0 0 (gA shC ad)) (F0 m 13 ls []) := by
  intro n
  induction n with
  | zero => intro M H locs C x0 hL0 x1 hL1 x2 hL2 x3 x4 x5 x6 ls hl hm; exact absurd hm (by simp [mX2_merge_13])
  | succ n ih =>
    intro M H locs C x0 hL0 x1 hL1 x2 hL2 x3 x4 x5 x6 ls hl hm
    rw [mX2_merge_13] at hm
    refine lv_iload S.1 S.2.1 dX2_merge_13 (lv_at hl 6 rfl) ?_
    refine lv_sipush (v := (128 : Int32)) S.1 S.2.1 dX2_merge_15 (by decide) ?_
    refine lv_icmp_ge (tgt := 201) S.1 S.2.1 dX2_merge_18 (by decide) (fun c1 => ?_) (fun c1 => ?_)
    · rw [if_pos c1] at hm
      exact gRetv S hr hlk C (Option.some.inj hm) dX2_merge_201
    · rw [if_neg c1] at hm
      refine lv_iload S.1 S.2.1 dX2_merge_21 (lv_at hl 4 rfl) ?_
      refine lv_aload_n S.1 S.2.1 dX2_merge_23 rfl (lv_at hl 1 rfl) ?_
      refine g_get (k := x1) (ci := 2) (f := 4) (v := .int (M.1 x1 4))  S C kiX2_merge_X2 kfX2_merge_39 rfl (by decide) hL1.1 rfl rfl dX2_merge_24 ?_
      refine lv_icmp_lt (tgt := 39) S.1 S.2.1 dX2_merge_27 (by decide) (fun c2 => ?_) (fun c2 => ?_)
      · rw [if_pos c2] at hm
        exact wX2_merge_39 S hr hlk ih M _ _ C x0 hL0 x1 hL1 x2 hL2 x3 x4 x5 x6 ls (lv_sub hl [0, 1, 2, 3, 4, 5, 6] rfl) hm
      · rw [if_neg c2] at hm
        refine lv_iload S.1 S.2.1 dX2_merge_30 (lv_at hl 5 rfl) ?_
        refine lv_aload_n S.1 S.2.1 dX2_merge_32 rfl (lv_at hl 2 rfl) ?_
        refine g_get (k := x2) (ci := 2) (f := 4) (v := .int (M.1 x2 4))  S C kiX2_merge_X2 kfX2_merge_39 rfl (by decide) hL2.1 rfl rfl dX2_merge_33 ?_
        refine lv_icmp_ge (tgt := 201) S.1 S.2.1 dX2_merge_36 (by decide) (fun c3 => ?_) (fun c3 => ?_)
        · rw [if_pos c3] at hm
          exact gRetv S hr hlk C (Option.some.inj hm) dX2_merge_201
        · rw [if_neg c3] at hm
          exact wX2_merge_39 S hr hlk ih M _ _ C x0 hL0 x1 hL1 x2 hL2 x3 x4 x5 x6 ls (lv_sub hl [0, 1, 2, 3, 4, 5, 6] rfl) hm
set_option maxHeartbeats 4000000 in
set_option maxRecDepth 100000 in
theorem c_X2_merge (l : Launch) (D : va_G) (cy : gCy) (ad : Nat → Nat) (M : gMem) (x0 : Nat) (hL0 : isL x0) (x1 : Nat) (hL1 : isL x1) (x2 : Nat) (hL2 : isL x2) (x3 : Int32) (r0 : gMem) (hm : mX2_merge M x0 x1 x2 x3 = some r0) : Met l yX2_merge wsX2_merge (gR 5 111) (va_Pc [.ref (ad x0), .ref (ad x1), .ref (ad x2), .int x3] (gP shC D cy ad M)) (gQv shC D cy ad r0) 0 0 (gA shC ad) := by
  refine gEnter (cc := cX2_merge) (maxL := 10) (ret := none) (by decide) rfl (Nat.le_of_ble_eq_true rfl) ?_
  intro p e s m below meth c ls S hr hlk C hl
  have S : CallFix p m c cX2_merge 10 s _ wsX2_merge RX2 := S
  have hl : lv_has ls 10 [(0, .ref (ad x0)), (1, .ref (ad x1)), (2, .ref (ad x2)), (3, .int x3)] := hl
  rw [mX2_merge] at hm
  refine lv_aload_n S.1 S.2.1 dX2_merge_0 rfl (lv_at hl 0 rfl) ?_
  obtain ⟨r1, hcr1, hm⟩ := bd_ok hm
  refine gC_v C (gRV (k := x0) (ci := 2) (r := (RX2, TX2, 5)) (As := []) (rest := []) 0 S C (c_X2_clear l D cy ad M x0 hL0 r1 hcr1) gX2_merge_X2_clear rfl (by decide +kernel) (by decide) hL0.1 rfl rfl rfl hl.1 rfl (Nat.le_of_ble_eq_true rfl) dX2_merge_1) (fun H locs C => ?_)
  refine lv_iconst (v := (0 : Int32)) S.1 S.2.1 dX2_merge_4 (by decide) ?_
  refine lv_istore (lv' := [(4, .int (0 : Int32)), (0, .ref (ad x0)), (1, .ref (ad x1)), (2, .ref (ad x2)), (3, .int x3)]) S.1 S.2.1 dX2_merge_5 hl (by decide) rfl (fun ls hl => ?_)
  refine lv_iconst (v := (0 : Int32)) S.1 S.2.1 dX2_merge_7 (by decide) ?_
  refine lv_istore (lv' := [(5, .int (0 : Int32)), (4, .int (0 : Int32)), (0, .ref (ad x0)), (1, .ref (ad x1)), (2, .ref (ad x2)), (3, .int x3)]) S.1 S.2.1 dX2_merge_8 hl (by decide) rfl (fun ls hl => ?_)
  refine lv_iconst (v := (0 : Int32)) S.1 S.2.1 dX2_merge_10 (by decide) ?_
  refine lv_istore (lv' := [(6, .int (0 : Int32)), (5, .int (0 : Int32)), (4, .int (0 : Int32)), (0, .ref (ad x0)), (1, .ref (ad x1)), (2, .ref (ad x2)), (3, .int x3)]) S.1 S.2.1 dX2_merge_11 hl (by decide) rfl (fun ls hl => ?_)
  exact wX2_merge_13 S hr hlk FU r1 _ _ C x0 hL0 x1 hL1 x2 hL2 x3 (0 : Int32) (0 : Int32) (0 : Int32) ls (lv_sub hl [3, 4, 5, 6, 2, 1, 0] rfl) hm
def mX2_commonBits_17 : Nat → gMem → Nat → Int32 → Int32 → Int32 → Option Int32
  | 0, _, _, _, _, _ => none
  | n + 1, M, x0, x1, x3, x4 => ck (inb x1 (lnOf x0)) <| if (M.1 (x0 + 2) x1.toNatClampNeg) ≤ x4 then (some x4) else ((mX7_bitAt x4).bind fun r3 => if (x3 &&& r3) = 0 then (nmd (x4 + (1 : Int32)) fun y5 => mX2_commonBits_17 n M x0 x1 x3 y5) else (some x4))
def mX2_commonBits (M : gMem) (x0 : Nat) (x1 : Int32) (x2 : Int32) : Option Int32 := ck (inb x1 (lnOf x0)) <| ck (inb x2 (lnOf x0)) <| nmd ((M.1 (x0 + 1) x1.toNatClampNeg) ^^^ (M.1 (x0 + 1) x2.toNatClampNeg)) fun y3 => mX2_commonBits_17 FU M x0 x1 y3 (0 : Int32)
set_option maxHeartbeats 4000000 in
set_option maxRecDepth 100000 in
theorem wX2_commonBits_17 {p : Program} {l : Launch} {e : Env} {s : State} {m : MethodId} {args : Array Value} {below : List Frame} {meth : Method} {c : Code} {D : va_G} {cy : gCy} {ad : Nat → Nat} {M : gMem} {r0 : Int32} (S : CallFix p m c cX2_commonBits 5 s args wsX2_commonBits RX2) (hr : meth.sig.returnType = (some .int)) (hlk : meth.locks = false) : ∀ (n : Nat), ∀ (H : Heap) (locs : List Loc), gW shC D cy ad s s.heap M H locs → ∀ (x0 : Nat) (hL0 : isL x0) (x1 : Int32) (x3 : Int32) (x4 : Int32), ∀ (ls : Array Slot), lv_has ls 5 [(0, .ref (ad x0)), (1, .int x1), (3, .int x3), (4, .int x4)] → mX2_commonBits_17 n M x0 x1 x3 x4 = some r0 → W p l e (gR 1 20) s m args below meth c H locs 0 0 (MQ below (gQi shC D cy ad r0 M) args s 0 0 (gA shC ad)) (F0 m 17 ls []) := by
  intro n
  induction n with
  | zero => intro H locs C x0 hL0 x1 x3 x4 ls hl hm; exact absurd hm (by simp [mX2_commonBits_17])
  | succ n ih =>
    intro H locs C x0 hL0 x1 x3 x4 ls hl hm
    rw [mX2_commonBits_17] at hm
    refine lv_iload S.1 S.2.1 dX2_commonBits_17 (lv_at hl 3 rfl) ?_
    refine lv_aload_n S.1 S.2.1 dX2_commonBits_19 rfl (lv_at hl 0 rfl) ?_
    refine g_get (k := x0) (ci := 2) (f := 1) (v := .ref (ad (x0 + 2)))  S C kiX2_commonBits_X2 kfX2_commonBits_25 rfl (by decide) hL0.1 rfl rfl dX2_commonBits_20 ?_
    refine lv_iload_n S.1 S.2.1 dX2_commonBits_23 rfl (lv_at hl 1 rfl) ?_
    obtain ⟨h1, hm⟩ := ck_ok hm
    refine g_iald S C (k := (x0 + 2)) (hL0).2.2.1 h1 dX2_commonBits_24 ?_
    refine lv_icmp_ge (tgt := 44) S.1 S.2.1 dX2_commonBits_25 (by decide) (fun c2 => ?_) (fun c2 => ?_)
    · rw [if_pos c2] at hm
      refine lv_iload S.1 S.2.1 dX2_commonBits_44 (lv_at hl 3 rfl) ?_
      exact gReti S hr hlk C (Option.some.inj hm) rfl dX2_commonBits_46
    · rw [if_neg c2] at hm
      refine lv_iload_n S.1 S.2.1 dX2_commonBits_28 rfl (lv_at hl 2 rfl) ?_
      refine lv_iload S.1 S.2.1 dX2_commonBits_29 (lv_at hl 3 rfl) ?_
      obtain ⟨r3, hcr3, hm⟩ := bd_ok hm
      refine gC_i C (gRSN (host := "PrefixLeader") (As := [.int x4]) (rest := [.int x3]) 1 S C (c_X7_bitAt l D cy ad M x4 r3 hcr3) gX2_commonBits_X7_bitAt_n79 rfl (by decide +kernel) knX2_commonBits_X7_bitAti knX2_commonBits_X7_bitAts (by decide +kernel) (by decide) rfl hl.1 rfl (Nat.le_of_ble_eq_true rfl) dX2_commonBits_31) (fun H locs C => ?_)
      refine lv_iand S.1 S.2.1 dX2_commonBits_34 ?_
      refine lv_if_ne (tgt := 44) S.1 S.2.1 dX2_commonBits_35 (by decide) (fun c4 => ?_) (fun c4 => ?_)
      · rw [if_neg c4] at hm
        refine lv_iload S.1 S.2.1 dX2_commonBits_44 (lv_at hl 3 rfl) ?_
        exact gReti S hr hlk C (Option.some.inj hm) rfl dX2_commonBits_46
      · rw [if_pos c4] at hm
        obtain ⟨y5, ey5, hm⟩ := nmd_ok hm
        refine lv_iinc (v := y5) (lv' := [(4, .int y5), (0, .ref (ad x0)), (1, .int x1), (3, .int x3)]) S.1 S.2.1 dX2_commonBits_38 hl (k := 3) rfl (by rw [ey5]; rfl) (by decide) rfl (fun ls hl => ?_)
        refine lv_goto (tgt := 17) S.1 S.2.1 dX2_commonBits_41 (by decide) ?_
        exact ih _ _ C x0 hL0 x1 x3 y5 ls (lv_sub hl [1, 2, 3, 0] rfl) hm
set_option maxHeartbeats 4000000 in
set_option maxRecDepth 100000 in
theorem c_X2_commonBits (l : Launch) (D : va_G) (cy : gCy) (ad : Nat → Nat) (M : gMem) (x0 : Nat) (hL0 : isL x0) (x1 : Int32) (x2 : Int32) (r0 : Int32) (hm : mX2_commonBits M x0 x1 x2 = some r0) : Met l yX2_commonBits wsX2_commonBits (gR 1 20) (va_Pc [.ref (ad x0), .int x1, .int x2] (gP shC D cy ad M)) (gQi shC D cy ad r0 M) 0 0 (gA shC ad) := by
  refine gEnter (cc := cX2_commonBits) (maxL := 5) (ret := (some .int)) (by decide) rfl (Nat.le_of_ble_eq_true rfl) ?_
  intro p e s m below meth c ls S hr hlk C hl
  have S : CallFix p m c cX2_commonBits 5 s _ wsX2_commonBits RX2 := S
  have hl : lv_has ls 5 [(0, .ref (ad x0)), (1, .int x1), (2, .int x2)] := hl
  rw [mX2_commonBits] at hm
  refine lv_aload_n S.1 S.2.1 dX2_commonBits_0 rfl (lv_at hl 0 rfl) ?_
  refine g_get (k := x0) (ci := 2) (f := 0) (v := .ref (ad (x0 + 1)))  S C kiX2_commonBits_X2 kfX2_commonBits_21 rfl (by decide) hL0.1 rfl rfl dX2_commonBits_1 ?_
  refine lv_iload_n S.1 S.2.1 dX2_commonBits_4 rfl (lv_at hl 1 rfl) ?_
  obtain ⟨h1, hm⟩ := ck_ok hm
  refine g_iald S C (k := (x0 + 1)) (hL0).2.1 h1 dX2_commonBits_5 ?_
  refine lv_aload_n S.1 S.2.1 dX2_commonBits_6 rfl (lv_at hl 0 rfl) ?_
  refine g_get (k := x0) (ci := 2) (f := 0) (v := .ref (ad (x0 + 1)))  S C kiX2_commonBits_X2 kfX2_commonBits_21 rfl (by decide) hL0.1 rfl rfl dX2_commonBits_7 ?_
  refine lv_iload_n S.1 S.2.1 dX2_commonBits_10 rfl (lv_at hl 2 rfl) ?_
  obtain ⟨h2, hm⟩ := ck_ok hm
  refine g_iald S C (k := (x0 + 1)) (hL0).2.1 h2 dX2_commonBits_11 ?_
  refine lv_ixor S.1 S.2.1 dX2_commonBits_12 ?_
  obtain ⟨y3, ey3, hm⟩ := nmd_ok hm
  refine gNmI ey3 ?_
  refine lv_istore_n (lv' := [(3, .int y3), (0, .ref (ad x0)), (1, .int x1), (2, .int x2)]) S.1 S.2.1 dX2_commonBits_13 rfl hl (by decide) rfl (fun ls hl => ?_)
  refine lv_iconst (v := (0 : Int32)) S.1 S.2.1 dX2_commonBits_14 (by decide) ?_
  refine lv_istore (lv' := [(4, .int (0 : Int32)), (3, .int y3), (0, .ref (ad x0)), (1, .int x1), (2, .int x2)]) S.1 S.2.1 dX2_commonBits_15 hl (by decide) rfl (fun ls hl => ?_)
  exact wX2_commonBits_17 S hr hlk FU _ _ C x0 hL0 x1 y3 (0 : Int32) ls (lv_sub hl [2, 3, 1, 0] rfl) hm
def mX2_firstHigh_3 : Nat → gMem → Nat → Int32 → Int32 → Int32 → Option Int32
  | 0, _, _, _, _, _ => none
  | n + 1, M, x0, x2, x3, x4 => if x2 ≤ x4 then (some x2) else (ck (inb x4 (lnOf x0)) <| (mX7_bitAt x3).bind fun r3 => if ((M.1 (x0 + 1) x4.toNatClampNeg) &&& r3) = 0 then (nmd (x4 + (1 : Int32)) fun y5 => mX2_firstHigh_3 n M x0 x2 x3 y5) else (some x4))
def mX2_firstHigh (M : gMem) (x0 : Nat) (x1 : Int32) (x2 : Int32) (x3 : Int32) : Option Int32 := mX2_firstHigh_3 FU M x0 x2 x3 x1
set_option maxHeartbeats 4000000 in
set_option maxRecDepth 100000 in
theorem wX2_firstHigh_3 {p : Program} {l : Launch} {e : Env} {s : State} {m : MethodId} {args : Array Value} {below : List Frame} {meth : Method} {c : Code} {D : va_G} {cy : gCy} {ad : Nat → Nat} {M : gMem} {r0 : Int32} (S : CallFix p m c cX2_firstHigh 5 s args wsX2_firstHigh RX2) (hr : meth.sig.returnType = (some .int)) (hlk : meth.locks = false) : ∀ (n : Nat), ∀ (H : Heap) (locs : List Loc), gW shC D cy ad s s.heap M H locs → ∀ (x0 : Nat) (hL0 : isL x0) (x2 : Int32) (x3 : Int32) (x4 : Int32), ∀ (ls : Array Slot), lv_has ls 5 [(0, .ref (ad x0)), (2, .int x2), (3, .int x3), (4, .int x4)] → mX2_firstHigh_3 n M x0 x2 x3 x4 = some r0 → W p l e (gR 1 20) s m args below meth c H locs 0 0 (MQ below (gQi shC D cy ad r0 M) args s 0 0 (gA shC ad)) (F0 m 3 ls []) := by
  intro n
  induction n with
  | zero => intro H locs C x0 hL0 x2 x3 x4 ls hl hm; exact absurd hm (by simp [mX2_firstHigh_3])
  | succ n ih =>
    intro H locs C x0 hL0 x2 x3 x4 ls hl hm
    rw [mX2_firstHigh_3] at hm
    refine lv_iload S.1 S.2.1 dX2_firstHigh_3 (lv_at hl 3 rfl) ?_
    refine lv_iload_n S.1 S.2.1 dX2_firstHigh_5 rfl (lv_at hl 1 rfl) ?_
    refine lv_icmp_ge (tgt := 33) S.1 S.2.1 dX2_firstHigh_6 (by decide) (fun c1 => ?_) (fun c1 => ?_)
    · rw [if_pos c1] at hm
      refine lv_iload_n S.1 S.2.1 dX2_firstHigh_33 rfl (lv_at hl 1 rfl) ?_
      exact gReti S hr hlk C (Option.some.inj hm) rfl dX2_firstHigh_34
    · rw [if_neg c1] at hm
      refine lv_aload_n S.1 S.2.1 dX2_firstHigh_9 rfl (lv_at hl 0 rfl) ?_
      refine g_get (k := x0) (ci := 2) (f := 0) (v := .ref (ad (x0 + 1)))  S C kiX2_firstHigh_X2 kfX2_firstHigh_21 rfl (by decide) hL0.1 rfl rfl dX2_firstHigh_10 ?_
      refine lv_iload S.1 S.2.1 dX2_firstHigh_13 (lv_at hl 3 rfl) ?_
      obtain ⟨h2, hm⟩ := ck_ok hm
      refine g_iald S C (k := (x0 + 1)) (hL0).2.1 h2 dX2_firstHigh_15 ?_
      refine lv_iload_n S.1 S.2.1 dX2_firstHigh_16 rfl (lv_at hl 2 rfl) ?_
      obtain ⟨r3, hcr3, hm⟩ := bd_ok hm
      refine gC_i C (gRSN (host := "PrefixLeader") (As := [.int x3]) (rest := [.int (M.1 (x0 + 1) x4.toNatClampNeg)]) 1 S C (c_X7_bitAt l D cy ad M x3 r3 hcr3) gX2_firstHigh_X7_bitAt_n79 rfl (by decide +kernel) knX2_firstHigh_X7_bitAti knX2_firstHigh_X7_bitAts (by decide +kernel) (by decide) rfl hl.1 rfl (Nat.le_of_ble_eq_true rfl) dX2_firstHigh_17) (fun H locs C => ?_)
      refine lv_iand S.1 S.2.1 dX2_firstHigh_20 ?_
      refine lv_if_eq (tgt := 27) S.1 S.2.1 dX2_firstHigh_21 (by decide) (fun c4 => ?_) (fun c4 => ?_)
      · rw [if_pos c4] at hm
        obtain ⟨y5, ey5, hm⟩ := nmd_ok hm
        refine lv_iinc (v := y5) (lv' := [(4, .int y5), (0, .ref (ad x0)), (2, .int x2), (3, .int x3)]) S.1 S.2.1 dX2_firstHigh_27 hl (k := 3) rfl (by rw [ey5]; rfl) (by decide) rfl (fun ls hl => ?_)
        refine lv_goto (tgt := 3) S.1 S.2.1 dX2_firstHigh_30 (by decide) ?_
        exact ih _ _ C x0 hL0 x2 x3 y5 ls (lv_sub hl [1, 2, 3, 0] rfl) hm
      · rw [if_neg c4] at hm
        refine lv_iload S.1 S.2.1 dX2_firstHigh_24 (lv_at hl 3 rfl) ?_
        exact gReti S hr hlk C (Option.some.inj hm) rfl dX2_firstHigh_26
set_option maxHeartbeats 4000000 in
set_option maxRecDepth 100000 in
theorem c_X2_firstHigh (l : Launch) (D : va_G) (cy : gCy) (ad : Nat → Nat) (M : gMem) (x0 : Nat) (hL0 : isL x0) (x1 : Int32) (x2 : Int32) (x3 : Int32) (r0 : Int32) (hm : mX2_firstHigh M x0 x1 x2 x3 = some r0) : Met l yX2_firstHigh wsX2_firstHigh (gR 1 20) (va_Pc [.ref (ad x0), .int x1, .int x2, .int x3] (gP shC D cy ad M)) (gQi shC D cy ad r0 M) 0 0 (gA shC ad) := by
  refine gEnter (cc := cX2_firstHigh) (maxL := 5) (ret := (some .int)) (by decide) rfl (Nat.le_of_ble_eq_true rfl) ?_
  intro p e s m below meth c ls S hr hlk C hl
  have S : CallFix p m c cX2_firstHigh 5 s _ wsX2_firstHigh RX2 := S
  have hl : lv_has ls 5 [(0, .ref (ad x0)), (1, .int x1), (2, .int x2), (3, .int x3)] := hl
  rw [mX2_firstHigh] at hm
  refine lv_iload_n S.1 S.2.1 dX2_firstHigh_0 rfl (lv_at hl 1 rfl) ?_
  refine lv_istore (lv' := [(4, .int x1), (0, .ref (ad x0)), (1, .int x1), (2, .int x2), (3, .int x3)]) S.1 S.2.1 dX2_firstHigh_1 hl (by decide) rfl (fun ls hl => ?_)
  exact wX2_firstHigh_3 S hr hlk FU _ _ C x0 hL0 x2 x3 x1 ls (lv_sub hl [1, 3, 4, 0] rfl) hm
