theorem kiX7_becomeLeast_X7 : ∀ w ∈ wsX70, w ∈ wsX7_becomeLeast := by decide +kernel
theorem kfX7_becomeLeast_28 : Cond.fieldLink RX7 28 "PrefixLeader" "tree" "LPrefixLeader$Tree;" ∈ wsX7_becomeLeast := by decide +kernel
theorem kfX7_becomeLeast_22 : Cond.fieldLink RX7 22 "PrefixLeader" "fewest" "LPrefixLeader$Lines;" ∈ wsX7_becomeLeast := by decide +kernel
theorem kiX7_becomeLeast_X2 : ∀ w ∈ wsX20, w ∈ wsX7_becomeLeast := by decide +kernel
theorem kfX7_becomeLeast_97 : Cond.fieldLink RX7 97 "PrefixLeader$Lines" "size" "I" ∈ wsX7_becomeLeast := by decide +kernel
theorem kiX7_measureDifference_X7 : ∀ w ∈ wsX70, w ∈ wsX7_measureDifference := by decide +kernel
theorem kfX7_measureDifference_35 : Cond.fieldLink RX7 35 "PrefixLeader" "spansOfOne" "LPrefixLeader$Spans;" ∈ wsX7_measureDifference := by decide +kernel
theorem kfX7_measureDifference_11 : Cond.fieldLink RX7 11 "PrefixLeader" "books" "[LPrefixLeader$Lines;" ∈ wsX7_measureDifference := by decide +kernel
theorem kfX7_measureDifference_39 : Cond.fieldLink RX7 39 "PrefixLeader" "spansOfOther" "LPrefixLeader$Spans;" ∈ wsX7_measureDifference := by decide +kernel
theorem kfX7_measureDifference_45 : Cond.fieldLink RX7 45 "PrefixLeader" "difference" "LPrefixLeader$Difference;" ∈ wsX7_measureDifference := by decide +kernel
theorem kiX7_put_X7 : ∀ w ∈ wsX70, w ∈ wsX7_put := by decide +kernel
theorem kfX7_put_11 : Cond.fieldLink RX7 11 "PrefixLeader" "books" "[LPrefixLeader$Lines;" ∈ wsX7_put := by decide +kernel
theorem kiX7_put_X2 : ∀ w ∈ wsX20, w ∈ wsX7_put := by decide +kernel
theorem kfX7_put_82 : Cond.fieldLink RX7 82 "PrefixLeader$Lines" "goal" "[I" ∈ wsX7_put := by decide +kernel
theorem kiX7_drop_X7 : ∀ w ∈ wsX70, w ∈ wsX7_drop := by decide +kernel
theorem kfX7_drop_11 : Cond.fieldLink RX7 11 "PrefixLeader" "books" "[LPrefixLeader$Lines;" ∈ wsX7_drop := by decide +kernel
theorem kiX7_copy_X7 : ∀ w ∈ wsX70, w ∈ wsX7_copy := by decide +kernel
theorem kfX7_copy_11 : Cond.fieldLink RX7 11 "PrefixLeader" "books" "[LPrefixLeader$Lines;" ∈ wsX7_copy := by decide +kernel
theorem kiX7_copy_X2 : ∀ w ∈ wsX20, w ∈ wsX7_copy := by decide +kernel
theorem kfX7_copy_97 : Cond.fieldLink RX7 97 "PrefixLeader$Lines" "size" "I" ∈ wsX7_copy := by decide +kernel
theorem kiX7_count_X7 : ∀ w ∈ wsX70, w ∈ wsX7_count := by decide +kernel
theorem kfX7_count_11 : Cond.fieldLink RX7 11 "PrefixLeader" "books" "[LPrefixLeader$Lines;" ∈ wsX7_count := by decide +kernel
theorem kiX7_count_X2 : ∀ w ∈ wsX20, w ∈ wsX7_count := by decide +kernel
theorem kfX7_count_97 : Cond.fieldLink RX7 97 "PrefixLeader$Lines" "size" "I" ∈ wsX7_count := by decide +kernel
theorem kcX7_line_101 : Cond.constantLong RX7 101 (-1 : Int64) ∈ wsX7_line := by decide +kernel
theorem kiX7_line_X7 : ∀ w ∈ wsX70, w ∈ wsX7_line := by decide +kernel
theorem kfX7_line_11 : Cond.fieldLink RX7 11 "PrefixLeader" "books" "[LPrefixLeader$Lines;" ∈ wsX7_line := by decide +kernel
theorem kiX7_line_X2 : ∀ w ∈ wsX20, w ∈ wsX7_line := by decide +kernel
theorem kfX7_line_97 : Cond.fieldLink RX7 97 "PrefixLeader$Lines" "size" "I" ∈ wsX7_line := by decide +kernel
theorem kfX7_line_107 : Cond.fieldLink RX7 107 "PrefixLeader$Lines" "bits" "[I" ∈ wsX7_line := by decide +kernel
theorem kfX7_line_82 : Cond.fieldLink RX7 82 "PrefixLeader$Lines" "goal" "[I" ∈ wsX7_line := by decide +kernel
theorem kiX7_find_X7 : ∀ w ∈ wsX70, w ∈ wsX7_find := by decide +kernel
theorem kfX7_find_11 : Cond.fieldLink RX7 11 "PrefixLeader" "books" "[LPrefixLeader$Lines;" ∈ wsX7_find := by decide +kernel
theorem kiX7_find_X2 : ∀ w ∈ wsX20, w ∈ wsX7_find := by decide +kernel
theorem kfX7_find_97 : Cond.fieldLink RX7 97 "PrefixLeader$Lines" "size" "I" ∈ wsX7_find := by decide +kernel
theorem kiX7_longest_X7 : ∀ w ∈ wsX70, w ∈ wsX7_longest := by decide +kernel
theorem kfX7_longest_11 : Cond.fieldLink RX7 11 "PrefixLeader" "books" "[LPrefixLeader$Lines;" ∈ wsX7_longest := by decide +kernel
theorem kiX7_longest_X2 : ∀ w ∈ wsX20, w ∈ wsX7_longest := by decide +kernel
theorem kfX7_longest_97 : Cond.fieldLink RX7 97 "PrefixLeader$Lines" "size" "I" ∈ wsX7_longest := by decide +kernel
theorem kiX7_least_X7 : ∀ w ∈ wsX70, w ∈ wsX7_least := by decide +kernel
theorem kfX7_least_11 : Cond.fieldLink RX7 11 "PrefixLeader" "books" "[LPrefixLeader$Lines;" ∈ wsX7_least := by decide +kernel
theorem kiX7_set_X7 : ∀ w ∈ wsX70, w ∈ wsX7_set := by decide +kernel
theorem kfX7_set_11 : Cond.fieldLink RX7 11 "PrefixLeader" "books" "[LPrefixLeader$Lines;" ∈ wsX7_set := by decide +kernel
theorem kfX7_set_28 : Cond.fieldLink RX7 28 "PrefixLeader" "tree" "LPrefixLeader$Tree;" ∈ wsX7_set := by decide +kernel
theorem kiX7_spans_X7 : ∀ w ∈ wsX70, w ∈ wsX7_spans := by decide +kernel
theorem kfX7_spans_35 : Cond.fieldLink RX7 35 "PrefixLeader" "spansOfOne" "LPrefixLeader$Spans;" ∈ wsX7_spans := by decide +kernel
theorem kfX7_spans_11 : Cond.fieldLink RX7 11 "PrefixLeader" "books" "[LPrefixLeader$Lines;" ∈ wsX7_spans := by decide +kernel
theorem kiX7_spans_X3 : ∀ w ∈ wsX30, w ∈ wsX7_spans := by decide +kernel
theorem kiX7_span_X7 : ∀ w ∈ wsX70, w ∈ wsX7_span := by decide +kernel
theorem kfX7_span_35 : Cond.fieldLink RX7 35 "PrefixLeader" "spansOfOne" "LPrefixLeader$Spans;" ∈ wsX7_span := by decide +kernel
theorem kfX7_span_11 : Cond.fieldLink RX7 11 "PrefixLeader" "books" "[LPrefixLeader$Lines;" ∈ wsX7_span := by decide +kernel
theorem kcX7_span_101 : Cond.constantLong RX7 101 (-1 : Int64) ∈ wsX7_span := by decide +kernel
theorem kcX7_share_101 : Cond.constantLong RX7 101 (-1 : Int64) ∈ wsX7_share := by decide +kernel
theorem kiX7_share_X7 : ∀ w ∈ wsX70, w ∈ wsX7_share := by decide +kernel
theorem kfX7_share_35 : Cond.fieldLink RX7 35 "PrefixLeader" "spansOfOne" "LPrefixLeader$Spans;" ∈ wsX7_share := by decide +kernel
theorem kfX7_share_11 : Cond.fieldLink RX7 11 "PrefixLeader" "books" "[LPrefixLeader$Lines;" ∈ wsX7_share := by decide +kernel
theorem kiX7_same_X7 : ∀ w ∈ wsX70, w ∈ wsX7_same := by decide +kernel
theorem kfX7_same_45 : Cond.fieldLink RX7 45 "PrefixLeader" "difference" "LPrefixLeader$Difference;" ∈ wsX7_same := by decide +kernel
theorem kiX7_same_X1 : ∀ w ∈ wsX10, w ∈ wsX7_same := by decide +kernel
theorem kcX7_differ_101 : Cond.constantLong RX7 101 (-1 : Int64) ∈ wsX7_differ := by decide +kernel
theorem kiX7_differ_X7 : ∀ w ∈ wsX70, w ∈ wsX7_differ := by decide +kernel
theorem kfX7_differ_45 : Cond.fieldLink RX7 45 "PrefixLeader" "difference" "LPrefixLeader$Difference;" ∈ wsX7_differ := by decide +kernel
theorem kiX7_differ_X1 : ∀ w ∈ wsX10, w ∈ wsX7_differ := by decide +kernel
theorem kiX7_combine_X7 : ∀ w ∈ wsX70, w ∈ wsX7_combine := by decide +kernel
theorem kfX7_combine_18 : Cond.fieldLink RX7 18 "PrefixLeader" "together" "LPrefixLeader$Lines;" ∈ wsX7_combine := by decide +kernel
theorem kfX7_combine_11 : Cond.fieldLink RX7 11 "PrefixLeader" "books" "[LPrefixLeader$Lines;" ∈ wsX7_combine := by decide +kernel
theorem kiX7_cover_X7 : ∀ w ∈ wsX70, w ∈ wsX7_cover := by decide +kernel
theorem kfX7_cover_52 : Cond.fieldLink RX7 52 "PrefixLeader" "latestCover" "LPrefixLeader$Cover;" ∈ wsX7_cover := by decide +kernel
theorem kiX7_cover_X0 : ∀ w ∈ wsX00, w ∈ wsX7_cover := by decide +kernel
theorem kiX7_piece_X7 : ∀ w ∈ wsX70, w ∈ wsX7_piece := by decide +kernel
theorem kfX7_piece_52 : Cond.fieldLink RX7 52 "PrefixLeader" "latestCover" "LPrefixLeader$Cover;" ∈ wsX7_piece := by decide +kernel
theorem kiX7_way_X7 : ∀ w ∈ wsX70, w ∈ wsX7_way := by decide +kernel
theorem kfX7_way_59 : Cond.fieldLink RX7 59 "PrefixLeader" "latestWay" "LPrefixLeader$Way;" ∈ wsX7_way := by decide +kernel
theorem kfX7_way_11 : Cond.fieldLink RX7 11 "PrefixLeader" "books" "[LPrefixLeader$Lines;" ∈ wsX7_way := by decide +kernel
theorem kiX7_way_X6 : ∀ w ∈ wsX60, w ∈ wsX7_way := by decide +kernel
theorem kiX7_step_X7 : ∀ w ∈ wsX70, w ∈ wsX7_step := by decide +kernel
theorem kfX7_step_59 : Cond.fieldLink RX7 59 "PrefixLeader" "latestWay" "LPrefixLeader$Way;" ∈ wsX7_step := by decide +kernel
theorem kiX7_led_X7 : ∀ w ∈ wsX70, w ∈ wsX7_led := by decide +kernel
theorem kfX7_led_59 : Cond.fieldLink RX7 59 "PrefixLeader" "latestWay" "LPrefixLeader$Way;" ∈ wsX7_led := by decide +kernel
theorem kiX7_nodes_X7 : ∀ w ∈ wsX70, w ∈ wsX7_nodes := by decide +kernel
theorem kfX7_nodes_28 : Cond.fieldLink RX7 28 "PrefixLeader" "tree" "LPrefixLeader$Tree;" ∈ wsX7_nodes := by decide +kernel
theorem kfX7_nodes_11 : Cond.fieldLink RX7 11 "PrefixLeader" "books" "[LPrefixLeader$Lines;" ∈ wsX7_nodes := by decide +kernel
theorem kiX7_nodes_X5 : ∀ w ∈ wsX50, w ∈ wsX7_nodes := by decide +kernel
theorem kcX7_nodes_101 : Cond.constantLong RX7 101 (-1 : Int64) ∈ wsX7_nodes := by decide +kernel
theorem kiX7_steps_X7 : ∀ w ∈ wsX70, w ∈ wsX7_steps := by decide +kernel
theorem kfX7_steps_11 : Cond.fieldLink RX7 11 "PrefixLeader" "books" "[LPrefixLeader$Lines;" ∈ wsX7_steps := by decide +kernel
def mX7_becomeLeast (M : gMem) (x1 : Nat) (x2 : Nat) : Option (Int32 × gMem) := (mX5_plantWhole M x1).bind fun r1 => (mX5_writeLeast r1 30).bind fun r2 => if (r2.1 30 4) ≤ (64 : Int32) then ((mX2_become r2 x2 30).bind fun r4 => some ((r4.1 x2 4), r4)) else (some ((-2 : Int32), r2))
set_option maxHeartbeats 4000000 in
set_option maxRecDepth 100000 in
theorem c_X7_becomeLeast (l : Launch) (D : va_G) (cy : gCy) (ad : Nat → Nat) (M : gMem) (x1 : Nat) (hL1 : isL x1) (x2 : Nat) (hL2 : isL x2) (r0 : (Int32 × gMem)) (hm : mX7_becomeLeast M x1 x2 = some r0) : Met l yX7_becomeLeast wsX7_becomeLeast (gR 162 4246) (va_Pc [.ref (ad 0), .ref (ad x1), .ref (ad x2)] (gP shC D cy ad M)) (gQi shC D cy ad r0.1 r0.2) 0 0 (gA shC ad) := by
  refine gEnter (cc := cX7_becomeLeast) (maxL := 3) (ret := (some .int)) (by decide) rfl (Nat.le_of_ble_eq_true rfl) ?_
  intro p e s m below meth c ls S hr hlk C hl
  have S : CallFix p m c cX7_becomeLeast 3 s _ wsX7_becomeLeast RX7 := S
  have hl : lv_has ls 3 [(0, .ref (ad 0)), (1, .ref (ad x1)), (2, .ref (ad x2))] := hl
  rw [mX7_becomeLeast] at hm
  refine lv_aload_n S.1 S.2.1 dX7_becomeLeast_0 rfl (lv_at hl 0 rfl) ?_
  refine g_get (k := 0) (ci := 6) (f := 3) (v := .ref (ad 34))  S C kiX7_becomeLeast_X7 kfX7_becomeLeast_28 rfl (by decide) shC_0 rfl rfl dX7_becomeLeast_1 ?_
  refine lv_aload_n S.1 S.2.1 dX7_becomeLeast_4 rfl (lv_at hl 1 rfl) ?_
  obtain ⟨r1, hcr1, hm⟩ := bd_ok hm
  refine gC_v C (gRV (k := 34) (ci := 4) (r := (RX5, TX5, 7)) (As := [.ref (ad x1)]) (rest := []) 1 S C (c_X5_plantWhole l D cy ad M x1 hL1 r1 hcr1) gX7_becomeLeast_X5_plantWhole rfl (by decide +kernel) (by decide) shC_34 rfl rfl rfl hl.1 rfl (Nat.le_of_ble_eq_true rfl) dX7_becomeLeast_5) (fun H locs C => ?_)
  refine lv_aload_n S.1 S.2.1 dX7_becomeLeast_8 rfl (lv_at hl 0 rfl) ?_
  refine g_get (k := 0) (ci := 6) (f := 3) (v := .ref (ad 34))  S C kiX7_becomeLeast_X7 kfX7_becomeLeast_28 rfl (by decide) shC_0 rfl rfl dX7_becomeLeast_9 ?_
  refine lv_aload_n S.1 S.2.1 dX7_becomeLeast_12 rfl (lv_at hl 0 rfl) ?_
  refine g_get (k := 0) (ci := 6) (f := 2) (v := .ref (ad 30))  S C kiX7_becomeLeast_X7 kfX7_becomeLeast_22 rfl (by decide) shC_0 rfl rfl dX7_becomeLeast_13 ?_
  obtain ⟨r2, hcr2, hm⟩ := bd_ok hm
  refine gC_v C (gRV (k := 34) (ci := 4) (r := (RX5, TX5, 7)) (As := [.ref (ad 30)]) (rest := []) 1 S C (c_X5_writeLeast l D cy ad r1 30 isL_30 r2 hcr2) gX7_becomeLeast_X5_writeLeast rfl (by decide +kernel) (by decide) shC_34 rfl rfl rfl hl.1 rfl (Nat.le_of_ble_eq_true rfl) dX7_becomeLeast_16) (fun H locs C => ?_)
  refine lv_aload_n S.1 S.2.1 dX7_becomeLeast_19 rfl (lv_at hl 0 rfl) ?_
  refine g_get (k := 0) (ci := 6) (f := 2) (v := .ref (ad 30))  S C kiX7_becomeLeast_X7 kfX7_becomeLeast_22 rfl (by decide) shC_0 rfl rfl dX7_becomeLeast_20 ?_
  refine g_get (k := 30) (ci := 2) (f := 4) (v := .int (r2.1 30 4))  S C kiX7_becomeLeast_X2 kfX7_becomeLeast_97 rfl (by decide) isL_30.1 rfl rfl dX7_becomeLeast_23 ?_
  refine lv_bipush (v := (64 : Int32)) S.1 S.2.1 dX7_becomeLeast_26 (by decide) ?_
  refine lv_icmp_le (tgt := 34) S.1 S.2.1 dX7_becomeLeast_28 (by decide) (fun c3 => ?_) (fun c3 => ?_)
  · rw [if_pos c3] at hm
    refine lv_aload_n S.1 S.2.1 dX7_becomeLeast_34 rfl (lv_at hl 2 rfl) ?_
    refine lv_aload_n S.1 S.2.1 dX7_becomeLeast_35 rfl (lv_at hl 0 rfl) ?_
    refine g_get (k := 0) (ci := 6) (f := 2) (v := .ref (ad 30))  S C kiX7_becomeLeast_X7 kfX7_becomeLeast_22 rfl (by decide) shC_0 rfl rfl dX7_becomeLeast_36 ?_
    obtain ⟨r4, hcr4, hm⟩ := bd_ok hm
    refine gC_v C (gRV (k := x2) (ci := 2) (r := (RX2, TX2, 5)) (As := [.ref (ad 30)]) (rest := []) 1 S C (c_X2_become l D cy ad r2 x2 hL2 30 isL_30 r4 hcr4) gX7_becomeLeast_X2_become rfl (by decide +kernel) (by decide) hL2.1 rfl rfl rfl hl.1 rfl (Nat.le_of_ble_eq_true rfl) dX7_becomeLeast_39) (fun H locs C => ?_)
    refine lv_aload_n S.1 S.2.1 dX7_becomeLeast_42 rfl (lv_at hl 2 rfl) ?_
    refine g_get (k := x2) (ci := 2) (f := 4) (v := .int (r4.1 x2 4))  S C kiX7_becomeLeast_X2 kfX7_becomeLeast_97 rfl (by decide) hL2.1 rfl rfl dX7_becomeLeast_43 ?_
    exact gReti S hr hlk C (pr1 hm) (pr2 hm) dX7_becomeLeast_46
  · rw [if_neg c3] at hm
    refine lv_bipush (v := (-2 : Int32)) S.1 S.2.1 dX7_becomeLeast_31 (by decide) ?_
    exact gReti S hr hlk C (pr1 hm) (pr2 hm) dX7_becomeLeast_33
def mX7_measureDifference (M : gMem) (x1 : Int32) (x2 : Int32) : Option gMem := ck (inb x1 6) <| (mX3_measure M 41 (2 + 4 * x1.toNatClampNeg)).bind fun r2 => ck (inb x2 6) <| (mX3_measure r2 45 (2 + 4 * x2.toNatClampNeg)).bind fun r4 => (mX1_measure r4 41 45).bind fun r5 => some r5
set_option maxHeartbeats 4000000 in
set_option maxRecDepth 100000 in
theorem c_X7_measureDifference (l : Launch) (D : va_G) (cy : gCy) (ad : Nat → Nat) (M : gMem) (x1 : Int32) (x2 : Int32) (r0 : gMem) (hm : mX7_measureDifference M x1 x2 = some r0) : Met l yX7_measureDifference wsX7_measureDifference (gR 5 109) (va_Pc [.ref (ad 0), .int x1, .int x2] (gP shC D cy ad M)) (gQv shC D cy ad r0) 0 0 (gA shC ad) := by
  refine gEnter (cc := cX7_measureDifference) (maxL := 3) (ret := none) (by decide) rfl (Nat.le_of_ble_eq_true rfl) ?_
  intro p e s m below meth c ls S hr hlk C hl
  have S : CallFix p m c cX7_measureDifference 3 s _ wsX7_measureDifference RX7 := S
  have hl : lv_has ls 3 [(0, .ref (ad 0)), (1, .int x1), (2, .int x2)] := hl
  rw [mX7_measureDifference] at hm
  refine lv_aload_n S.1 S.2.1 dX7_measureDifference_0 rfl (lv_at hl 0 rfl) ?_
  refine g_get (k := 0) (ci := 6) (f := 4) (v := .ref (ad 41))  S C kiX7_measureDifference_X7 kfX7_measureDifference_35 rfl (by decide) shC_0 rfl rfl dX7_measureDifference_1 ?_
  refine lv_aload_n S.1 S.2.1 dX7_measureDifference_4 rfl (lv_at hl 0 rfl) ?_
  refine g_get (k := 0) (ci := 6) (f := 0) (v := .ref (ad 1))  S C kiX7_measureDifference_X7 kfX7_measureDifference_11 rfl (by decide) shC_0 rfl rfl dX7_measureDifference_5 ?_
  refine lv_iload_n S.1 S.2.1 dX7_measureDifference_8 rfl (lv_at hl 1 rfl) ?_
  obtain ⟨h1, hm⟩ := ck_ok hm
  refine g_aald S C (k := 1) shC_1 h1 dX7_measureDifference_9 ?_
  obtain ⟨r2, hcr2, hm⟩ := bd_ok hm
  refine gC_v C (gRV (k := 41) (ci := 3) (r := (RX3, TX3, 6)) (As := [.ref (ad (2 + 4 * x1.toNatClampNeg))]) (rest := []) 1 S C (c_X3_measure l D cy ad M 41 isS_41 (2 + 4 * x1.toNatClampNeg) (isL_book h1) r2 hcr2) gX7_measureDifference_X3_measure rfl (by decide +kernel) (by decide) isS_41.1 rfl rfl rfl hl.1 rfl (Nat.le_of_ble_eq_true rfl) dX7_measureDifference_10) (fun H locs C => ?_)
  refine lv_aload_n S.1 S.2.1 dX7_measureDifference_13 rfl (lv_at hl 0 rfl) ?_
  refine g_get (k := 0) (ci := 6) (f := 5) (v := .ref (ad 45))  S C kiX7_measureDifference_X7 kfX7_measureDifference_39 rfl (by decide) shC_0 rfl rfl dX7_measureDifference_14 ?_
  refine lv_aload_n S.1 S.2.1 dX7_measureDifference_17 rfl (lv_at hl 0 rfl) ?_
  refine g_get (k := 0) (ci := 6) (f := 0) (v := .ref (ad 1))  S C kiX7_measureDifference_X7 kfX7_measureDifference_11 rfl (by decide) shC_0 rfl rfl dX7_measureDifference_18 ?_
  refine lv_iload_n S.1 S.2.1 dX7_measureDifference_21 rfl (lv_at hl 2 rfl) ?_
  obtain ⟨h3, hm⟩ := ck_ok hm
  refine g_aald S C (k := 1) shC_1 h3 dX7_measureDifference_22 ?_
  obtain ⟨r4, hcr4, hm⟩ := bd_ok hm
  refine gC_v C (gRV (k := 45) (ci := 3) (r := (RX3, TX3, 6)) (As := [.ref (ad (2 + 4 * x2.toNatClampNeg))]) (rest := []) 1 S C (c_X3_measure l D cy ad r2 45 isS_45 (2 + 4 * x2.toNatClampNeg) (isL_book h3) r4 hcr4) gX7_measureDifference_X3_measure rfl (by decide +kernel) (by decide) isS_45.1 rfl rfl rfl hl.1 rfl (Nat.le_of_ble_eq_true rfl) dX7_measureDifference_23) (fun H locs C => ?_)
  refine lv_aload_n S.1 S.2.1 dX7_measureDifference_26 rfl (lv_at hl 0 rfl) ?_
  refine g_get (k := 0) (ci := 6) (f := 6) (v := .ref (ad 49))  S C kiX7_measureDifference_X7 kfX7_measureDifference_45 rfl (by decide) shC_0 rfl rfl dX7_measureDifference_27 ?_
  refine lv_aload_n S.1 S.2.1 dX7_measureDifference_30 rfl (lv_at hl 0 rfl) ?_
  refine g_get (k := 0) (ci := 6) (f := 4) (v := .ref (ad 41))  S C kiX7_measureDifference_X7 kfX7_measureDifference_35 rfl (by decide) shC_0 rfl rfl dX7_measureDifference_31 ?_
  refine lv_aload_n S.1 S.2.1 dX7_measureDifference_34 rfl (lv_at hl 0 rfl) ?_
  refine g_get (k := 0) (ci := 6) (f := 5) (v := .ref (ad 45))  S C kiX7_measureDifference_X7 kfX7_measureDifference_39 rfl (by decide) shC_0 rfl rfl dX7_measureDifference_35 ?_
  obtain ⟨r5, hcr5, hm⟩ := bd_ok hm
  refine gC_v C (gRV (k := 49) (ci := 1) (r := (RX1, TX1, 2)) (As := [.ref (ad 41), .ref (ad 45)]) (rest := []) 2 S C (c_X1_measure l D cy ad r4 41 isS_41 45 isS_45 r5 hcr5) gX7_measureDifference_X1_measure rfl (by decide +kernel) (by decide) shC_49 rfl rfl rfl hl.1 rfl (Nat.le_of_ble_eq_true rfl) dX7_measureDifference_38) (fun H locs C => ?_)
  exact gRetv S hr hlk C (Option.some.inj hm) dX7_measureDifference_41
def mX7_put (M : gMem) (x1 : Int32) (x2 : Int32) (x3 : Int32) (x4 : Int32) : Option (Int32 × gMem) := (mX7_isBook x1).bind fun r1 => if r1 = 0 then (some ((-1 : Int32), M)) else ((mX7_isBeginning x2 x3).bind fun r3 => if r3 = 0 then (some ((-1 : Int32), M)) else ((mX7_isGoal x4).bind fun r5 => if r5 = 0 then (some ((-1 : Int32), M)) else (ck (inb x1 6) <| (mX2_placeOf M (2 + 4 * x1.toNatClampNeg) x2 x3).bind fun r8 => (mX2_isAt M (2 + 4 * x1.toNatClampNeg) r8 x2 x3).bind fun r9 => if r9 = 0 then ((mX2_insert M (2 + 4 * x1.toNatClampNeg) r8 x2 x3 x4).bind fun r11 => if r11.1 = 0 then (some ((-1 : Int32), r11.2)) else (some ((0 : Int32), r11.2))) else (ck (inb r8 (lnOf (2 + 4 * x1.toNatClampNeg))) <| nmd (sI M ((2 + 4 * x1.toNatClampNeg) + 3) r8.toNatClampNeg x4) fun M14 => some ((1 : Int32), M14)))))
set_option maxHeartbeats 4000000 in
set_option maxRecDepth 100000 in
theorem c_X7_put (l : Launch) (D : va_G) (cy : gCy) (ad : Nat → Nat) (M : gMem) (x1 : Int32) (x2 : Int32) (x3 : Int32) (x4 : Int32) (r0 : (Int32 × gMem)) (hm : mX7_put M x1 x2 x3 x4 = some r0) : Met l yX7_put wsX7_put (gR 3 66) (va_Pc [.ref (ad 0), .int x1, .int x2, .int x3, .int x4] (gP shC D cy ad M)) (gQi shC D cy ad r0.1 r0.2) 0 0 (gA shC ad) := by
  refine gEnter (cc := cX7_put) (maxL := 7) (ret := (some .int)) (by decide) rfl (Nat.le_of_ble_eq_true rfl) ?_
  intro p e s m below meth c ls S hr hlk C hl
  have S : CallFix p m c cX7_put 7 s _ wsX7_put RX7 := S
  have hl : lv_has ls 7 [(0, .ref (ad 0)), (1, .int x1), (2, .int x2), (3, .int x3), (4, .int x4)] := hl
  rw [mX7_put] at hm
  refine lv_iload_n S.1 S.2.1 dX7_put_0 rfl (lv_at hl 1 rfl) ?_
  obtain ⟨r1, hcr1, hm⟩ := bd_ok hm
  refine gC_i C (gRS (As := [.int x1]) (rest := []) 1 S C (c_X7_isBook l D cy ad M x1 r1 hcr1) gX7_put_X7_isBook rfl (by decide +kernel) (by decide) rfl hl.1 rfl (Nat.le_of_ble_eq_true rfl) dX7_put_1) (fun H locs C => ?_)
  refine lv_if_eq (tgt := 23) S.1 S.2.1 dX7_put_4 (by decide) (fun c2 => ?_) (fun c2 => ?_)
  · rw [if_pos c2] at hm
    refine lv_iconst (v := (-1 : Int32)) S.1 S.2.1 dX7_put_23 (by decide) ?_
    exact gReti S hr hlk C (pr1 hm) (pr2 hm) dX7_put_24
  · rw [if_neg c2] at hm
    refine lv_iload_n S.1 S.2.1 dX7_put_7 rfl (lv_at hl 2 rfl) ?_
    refine lv_iload_n S.1 S.2.1 dX7_put_8 rfl (lv_at hl 3 rfl) ?_
    obtain ⟨r3, hcr3, hm⟩ := bd_ok hm
    refine gC_i C (gRS (As := [.int x2, .int x3]) (rest := []) 2 S C (c_X7_isBeginning l D cy ad M x2 x3 r3 hcr3) gX7_put_X7_isBeginning rfl (by decide +kernel) (by decide) rfl hl.1 rfl (Nat.le_of_ble_eq_true rfl) dX7_put_9) (fun H locs C => ?_)
    refine lv_if_eq (tgt := 23) S.1 S.2.1 dX7_put_12 (by decide) (fun c4 => ?_) (fun c4 => ?_)
    · rw [if_pos c4] at hm
      refine lv_iconst (v := (-1 : Int32)) S.1 S.2.1 dX7_put_23 (by decide) ?_
      exact gReti S hr hlk C (pr1 hm) (pr2 hm) dX7_put_24
    · rw [if_neg c4] at hm
      refine lv_iload S.1 S.2.1 dX7_put_15 (lv_at hl 4 rfl) ?_
      obtain ⟨r5, hcr5, hm⟩ := bd_ok hm
      refine gC_i C (gRS (As := [.int x4]) (rest := []) 1 S C (c_X7_isGoal l D cy ad M x4 r5 hcr5) gX7_put_X7_isGoal rfl (by decide +kernel) (by decide) rfl hl.1 rfl (Nat.le_of_ble_eq_true rfl) dX7_put_17) (fun H locs C => ?_)
      refine lv_if_ne (tgt := 25) S.1 S.2.1 dX7_put_20 (by decide) (fun c6 => ?_) (fun c6 => ?_)
      · rw [if_neg c6] at hm
        refine lv_aload_n S.1 S.2.1 dX7_put_25 rfl (lv_at hl 0 rfl) ?_
        refine g_get (k := 0) (ci := 6) (f := 0) (v := .ref (ad 1))  S C kiX7_put_X7 kfX7_put_11 rfl (by decide) shC_0 rfl rfl dX7_put_26 ?_
        refine lv_iload_n S.1 S.2.1 dX7_put_29 rfl (lv_at hl 1 rfl) ?_
        obtain ⟨h7, hm⟩ := ck_ok hm
        refine g_aald S C (k := 1) shC_1 h7 dX7_put_30 ?_
        refine lv_astore (lv' := [(5, .ref (ad (2 + 4 * x1.toNatClampNeg))), (0, .ref (ad 0)), (1, .int x1), (2, .int x2), (3, .int x3), (4, .int x4)]) S.1 S.2.1 dX7_put_31 hl (by decide) rfl (fun ls hl => ?_)
        refine lv_aload S.1 S.2.1 dX7_put_33 (lv_at hl 0 rfl) ?_
        refine lv_iload_n S.1 S.2.1 dX7_put_35 rfl (lv_at hl 3 rfl) ?_
        refine lv_iload_n S.1 S.2.1 dX7_put_36 rfl (lv_at hl 4 rfl) ?_
        obtain ⟨r8, hcr8, hm⟩ := bd_ok hm
        refine gC_i C (gRV (k := (2 + 4 * x1.toNatClampNeg)) (ci := 2) (r := (RX2, TX2, 5)) (As := [.int x2, .int x3]) (rest := []) 2 S C (c_X2_placeOf l D cy ad M (2 + 4 * x1.toNatClampNeg) (isL_book h7) x2 x3 r8 hcr8) gX7_put_X2_placeOf rfl (by decide +kernel) (by decide) ((isL_book h7)).1 rfl rfl rfl hl.1 rfl (Nat.le_of_ble_eq_true rfl) dX7_put_37) (fun H locs C => ?_)
        refine lv_istore (lv' := [(6, .int r8), (5, .ref (ad (2 + 4 * x1.toNatClampNeg))), (0, .ref (ad 0)), (1, .int x1), (2, .int x2), (3, .int x3), (4, .int x4)]) S.1 S.2.1 dX7_put_40 hl (by decide) rfl (fun ls hl => ?_)
        refine lv_aload S.1 S.2.1 dX7_put_42 (lv_at hl 1 rfl) ?_
        refine lv_iload S.1 S.2.1 dX7_put_44 (lv_at hl 0 rfl) ?_
        refine lv_iload_n S.1 S.2.1 dX7_put_46 rfl (lv_at hl 4 rfl) ?_
        refine lv_iload_n S.1 S.2.1 dX7_put_47 rfl (lv_at hl 5 rfl) ?_
        obtain ⟨r9, hcr9, hm⟩ := bd_ok hm
        refine gC_i C (gRV (k := (2 + 4 * x1.toNatClampNeg)) (ci := 2) (r := (RX2, TX2, 5)) (As := [.int r8, .int x2, .int x3]) (rest := []) 3 S C (c_X2_isAt l D cy ad M (2 + 4 * x1.toNatClampNeg) (isL_book h7) r8 x2 x3 r9 hcr9) gX7_put_X2_isAt rfl (by decide +kernel) (by decide) ((isL_book h7)).1 rfl rfl rfl hl.1 rfl (Nat.le_of_ble_eq_true rfl) dX7_put_48) (fun H locs C => ?_)
        refine lv_if_eq (tgt := 66) S.1 S.2.1 dX7_put_51 (by decide) (fun c10 => ?_) (fun c10 => ?_)
        · rw [if_pos c10] at hm
          refine lv_aload S.1 S.2.1 dX7_put_66 (lv_at hl 1 rfl) ?_
          refine lv_iload S.1 S.2.1 dX7_put_68 (lv_at hl 0 rfl) ?_
          refine lv_iload_n S.1 S.2.1 dX7_put_70 rfl (lv_at hl 4 rfl) ?_
          refine lv_iload_n S.1 S.2.1 dX7_put_71 rfl (lv_at hl 5 rfl) ?_
          refine lv_iload S.1 S.2.1 dX7_put_72 (lv_at hl 6 rfl) ?_
          obtain ⟨r11, hcr11, hm⟩ := bd_ok hm
          refine gC_i C (gRV (k := (2 + 4 * x1.toNatClampNeg)) (ci := 2) (r := (RX2, TX2, 5)) (As := [.int r8, .int x2, .int x3, .int x4]) (rest := []) 4 S C (c_X2_insert l D cy ad M (2 + 4 * x1.toNatClampNeg) (isL_book h7) r8 x2 x3 x4 r11 hcr11) gX7_put_X2_insert rfl (by decide +kernel) (by decide) ((isL_book h7)).1 rfl rfl rfl hl.1 rfl (Nat.le_of_ble_eq_true rfl) dX7_put_74) (fun H locs C => ?_)
          refine lv_if_eq (tgt := 84) S.1 S.2.1 dX7_put_77 (by decide) (fun c12 => ?_) (fun c12 => ?_)
          · rw [if_pos c12] at hm
            refine lv_iconst (v := (-1 : Int32)) S.1 S.2.1 dX7_put_84 (by decide) ?_
            exact gReti S hr hlk C (pr1 hm) (pr2 hm) dX7_put_85
          · rw [if_neg c12] at hm
            refine lv_iconst (v := (0 : Int32)) S.1 S.2.1 dX7_put_80 (by decide) ?_
            refine lv_goto (tgt := 85) S.1 S.2.1 dX7_put_81 (by decide) ?_
            exact gReti S hr hlk C (pr1 hm) (pr2 hm) dX7_put_85
        · rw [if_neg c10] at hm
          refine lv_aload S.1 S.2.1 dX7_put_54 (lv_at hl 1 rfl) ?_
          refine g_get (k := (2 + 4 * x1.toNatClampNeg)) (ci := 2) (f := 2) (v := .ref (ad ((2 + 4 * x1.toNatClampNeg) + 3)))  S C kiX7_put_X2 kfX7_put_82 rfl (by decide) ((isL_book h7)).1 rfl rfl dX7_put_56 ?_
          refine lv_iload S.1 S.2.1 dX7_put_59 (lv_at hl 0 rfl) ?_
          refine lv_iload S.1 S.2.1 dX7_put_61 (lv_at hl 6 rfl) ?_
          obtain ⟨h13, hm⟩ := ck_ok hm
          obtain ⟨M14, eM14, hm⟩ := nmd_ok hm
          refine g_iast S C (k := ((2 + 4 * x1.toNatClampNeg) + 3)) ((isL_book h7)).2.2.2 h13 dX7_put_63 (fun H locs C => ?_)
          rw [← eM14] at C
          refine lv_iconst (v := (1 : Int32)) S.1 S.2.1 dX7_put_64 (by decide) ?_
          exact gReti S hr hlk C (pr1 hm) (pr2 hm) dX7_put_65
      · rw [if_pos c6] at hm
        refine lv_iconst (v := (-1 : Int32)) S.1 S.2.1 dX7_put_23 (by decide) ?_
        exact gReti S hr hlk C (pr1 hm) (pr2 hm) dX7_put_24
def mX7_drop (M : gMem) (x1 : Int32) (x2 : Int32) (x3 : Int32) : Option (Int32 × gMem) := (mX7_isBook x1).bind fun r1 => if r1 = 0 then (some ((0 : Int32), M)) else (ck (inb x1 6) <| (mX2_placeOf M (2 + 4 * x1.toNatClampNeg) x2 x3).bind fun r4 => (mX2_isAt M (2 + 4 * x1.toNatClampNeg) r4 x2 x3).bind fun r5 => if r5 = 0 then (some ((0 : Int32), M)) else ((mX2_removeAt M (2 + 4 * x1.toNatClampNeg) r4).bind fun r7 => some ((1 : Int32), r7)))
set_option maxHeartbeats 4000000 in
set_option maxRecDepth 100000 in
theorem c_X7_drop (l : Launch) (D : va_G) (cy : gCy) (ad : Nat → Nat) (M : gMem) (x1 : Int32) (x2 : Int32) (x3 : Int32) (r0 : (Int32 × gMem)) (hm : mX7_drop M x1 x2 x3 = some r0) : Met l yX7_drop wsX7_drop (gR 3 66) (va_Pc [.ref (ad 0), .int x1, .int x2, .int x3] (gP shC D cy ad M)) (gQi shC D cy ad r0.1 r0.2) 0 0 (gA shC ad) := by
  refine gEnter (cc := cX7_drop) (maxL := 6) (ret := (some .boolean)) (by decide) rfl (Nat.le_of_ble_eq_true rfl) ?_
  intro p e s m below meth c ls S hr hlk C hl
  have S : CallFix p m c cX7_drop 6 s _ wsX7_drop RX7 := S
  have hl : lv_has ls 6 [(0, .ref (ad 0)), (1, .int x1), (2, .int x2), (3, .int x3)] := hl
  rw [mX7_drop] at hm
  refine lv_iload_n S.1 S.2.1 dX7_drop_0 rfl (lv_at hl 1 rfl) ?_
  obtain ⟨r1, hcr1, hm⟩ := bd_ok hm
  refine gC_i C (gRS (As := [.int x1]) (rest := []) 1 S C (c_X7_isBook l D cy ad M x1 r1 hcr1) gX7_drop_X7_isBook rfl (by decide +kernel) (by decide) rfl hl.1 rfl (Nat.le_of_ble_eq_true rfl) dX7_drop_1) (fun H locs C => ?_)
  refine lv_if_ne (tgt := 9) S.1 S.2.1 dX7_drop_4 (by decide) (fun c2 => ?_) (fun c2 => ?_)
  · rw [if_neg c2] at hm
    refine lv_aload_n S.1 S.2.1 dX7_drop_9 rfl (lv_at hl 0 rfl) ?_
    refine g_get (k := 0) (ci := 6) (f := 0) (v := .ref (ad 1))  S C kiX7_drop_X7 kfX7_drop_11 rfl (by decide) shC_0 rfl rfl dX7_drop_10 ?_
    refine lv_iload_n S.1 S.2.1 dX7_drop_13 rfl (lv_at hl 1 rfl) ?_
    obtain ⟨h3, hm⟩ := ck_ok hm
    refine g_aald S C (k := 1) shC_1 h3 dX7_drop_14 ?_
    refine lv_astore (lv' := [(4, .ref (ad (2 + 4 * x1.toNatClampNeg))), (0, .ref (ad 0)), (1, .int x1), (2, .int x2), (3, .int x3)]) S.1 S.2.1 dX7_drop_15 hl (by decide) rfl (fun ls hl => ?_)
    refine lv_aload S.1 S.2.1 dX7_drop_17 (lv_at hl 0 rfl) ?_
    refine lv_iload_n S.1 S.2.1 dX7_drop_19 rfl (lv_at hl 3 rfl) ?_
    refine lv_iload_n S.1 S.2.1 dX7_drop_20 rfl (lv_at hl 4 rfl) ?_
    obtain ⟨r4, hcr4, hm⟩ := bd_ok hm
    refine gC_i C (gRV (k := (2 + 4 * x1.toNatClampNeg)) (ci := 2) (r := (RX2, TX2, 5)) (As := [.int x2, .int x3]) (rest := []) 2 S C (c_X2_placeOf l D cy ad M (2 + 4 * x1.toNatClampNeg) (isL_book h3) x2 x3 r4 hcr4) gX7_drop_X2_placeOf rfl (by decide +kernel) (by decide) ((isL_book h3)).1 rfl rfl rfl hl.1 rfl (Nat.le_of_ble_eq_true rfl) dX7_drop_21) (fun H locs C => ?_)
    refine lv_istore (lv' := [(5, .int r4), (4, .ref (ad (2 + 4 * x1.toNatClampNeg))), (0, .ref (ad 0)), (1, .int x1), (2, .int x2), (3, .int x3)]) S.1 S.2.1 dX7_drop_24 hl (by decide) rfl (fun ls hl => ?_)
    refine lv_aload S.1 S.2.1 dX7_drop_26 (lv_at hl 1 rfl) ?_
    refine lv_iload S.1 S.2.1 dX7_drop_28 (lv_at hl 0 rfl) ?_
    refine lv_iload_n S.1 S.2.1 dX7_drop_30 rfl (lv_at hl 4 rfl) ?_
    refine lv_iload_n S.1 S.2.1 dX7_drop_31 rfl (lv_at hl 5 rfl) ?_
    obtain ⟨r5, hcr5, hm⟩ := bd_ok hm
    refine gC_i C (gRV (k := (2 + 4 * x1.toNatClampNeg)) (ci := 2) (r := (RX2, TX2, 5)) (As := [.int r4, .int x2, .int x3]) (rest := []) 3 S C (c_X2_isAt l D cy ad M (2 + 4 * x1.toNatClampNeg) (isL_book h3) r4 x2 x3 r5 hcr5) gX7_drop_X2_isAt rfl (by decide +kernel) (by decide) ((isL_book h3)).1 rfl rfl rfl hl.1 rfl (Nat.le_of_ble_eq_true rfl) dX7_drop_32) (fun H locs C => ?_)
    refine lv_if_ne (tgt := 40) S.1 S.2.1 dX7_drop_35 (by decide) (fun c6 => ?_) (fun c6 => ?_)
    · rw [if_neg c6] at hm
      refine lv_aload S.1 S.2.1 dX7_drop_40 (lv_at hl 1 rfl) ?_
      refine lv_iload S.1 S.2.1 dX7_drop_42 (lv_at hl 0 rfl) ?_
      obtain ⟨r7, hcr7, hm⟩ := bd_ok hm
      refine gC_v C (gRV (k := (2 + 4 * x1.toNatClampNeg)) (ci := 2) (r := (RX2, TX2, 5)) (As := [.int r4]) (rest := []) 1 S C (c_X2_removeAt l D cy ad M (2 + 4 * x1.toNatClampNeg) (isL_book h3) r4 r7 hcr7) gX7_drop_X2_removeAt rfl (by decide +kernel) (by decide) ((isL_book h3)).1 rfl rfl rfl hl.1 rfl (Nat.le_of_ble_eq_true rfl) dX7_drop_44) (fun H locs C => ?_)
      refine lv_iconst (v := (1 : Int32)) S.1 S.2.1 dX7_drop_47 (by decide) ?_
      exact gRetz S hr hlk C rfl (pr1 hm) (pr2 hm) dX7_drop_48
    · rw [if_pos c6] at hm
      refine lv_iconst (v := (0 : Int32)) S.1 S.2.1 dX7_drop_38 (by decide) ?_
      exact gRetz S hr hlk C rfl (pr1 hm) (pr2 hm) dX7_drop_39
  · rw [if_pos c2] at hm
    refine lv_iconst (v := (0 : Int32)) S.1 S.2.1 dX7_drop_7 (by decide) ?_
    exact gRetz S hr hlk C rfl (pr1 hm) (pr2 hm) dX7_drop_8
def mX7_copy (M : gMem) (x1 : Int32) (x2 : Int32) : Option (Int32 × gMem) := (mX7_isBook x1).bind fun r1 => if r1 = 0 then (some ((-1 : Int32), M)) else ((mX7_isBook x2).bind fun r3 => if r3 = 0 then (some ((-1 : Int32), M)) else (ck (inb x2 6) <| ck (inb x1 6) <| (mX2_become M (2 + 4 * x2.toNatClampNeg) (2 + 4 * x1.toNatClampNeg)).bind fun r7 => ck (inb x2 6) <| some ((r7.1 (2 + 4 * x2.toNatClampNeg) 4), r7)))
set_option maxHeartbeats 4000000 in
set_option maxRecDepth 100000 in
theorem c_X7_copy (l : Launch) (D : va_G) (cy : gCy) (ad : Nat → Nat) (M : gMem) (x1 : Int32) (x2 : Int32) (r0 : (Int32 × gMem)) (hm : mX7_copy M x1 x2 = some r0) : Met l yX7_copy wsX7_copy (gR 2 47) (va_Pc [.ref (ad 0), .int x1, .int x2] (gP shC D cy ad M)) (gQi shC D cy ad r0.1 r0.2) 0 0 (gA shC ad) := by
  refine gEnter (cc := cX7_copy) (maxL := 3) (ret := (some .int)) (by decide) rfl (Nat.le_of_ble_eq_true rfl) ?_
  intro p e s m below meth c ls S hr hlk C hl
  have S : CallFix p m c cX7_copy 3 s _ wsX7_copy RX7 := S
  have hl : lv_has ls 3 [(0, .ref (ad 0)), (1, .int x1), (2, .int x2)] := hl
  rw [mX7_copy] at hm
  refine lv_iload_n S.1 S.2.1 dX7_copy_0 rfl (lv_at hl 1 rfl) ?_
  obtain ⟨r1, hcr1, hm⟩ := bd_ok hm
  refine gC_i C (gRS (As := [.int x1]) (rest := []) 1 S C (c_X7_isBook l D cy ad M x1 r1 hcr1) gX7_copy_X7_isBook rfl (by decide +kernel) (by decide) rfl hl.1 rfl (Nat.le_of_ble_eq_true rfl) dX7_copy_1) (fun H locs C => ?_)
  refine lv_if_eq (tgt := 14) S.1 S.2.1 dX7_copy_4 (by decide) (fun c2 => ?_) (fun c2 => ?_)
  · rw [if_pos c2] at hm
    refine lv_iconst (v := (-1 : Int32)) S.1 S.2.1 dX7_copy_14 (by decide) ?_
    exact gReti S hr hlk C (pr1 hm) (pr2 hm) dX7_copy_15
  · rw [if_neg c2] at hm
    refine lv_iload_n S.1 S.2.1 dX7_copy_7 rfl (lv_at hl 2 rfl) ?_
    obtain ⟨r3, hcr3, hm⟩ := bd_ok hm
    refine gC_i C (gRS (As := [.int x2]) (rest := []) 1 S C (c_X7_isBook l D cy ad M x2 r3 hcr3) gX7_copy_X7_isBook rfl (by decide +kernel) (by decide) rfl hl.1 rfl (Nat.le_of_ble_eq_true rfl) dX7_copy_8) (fun H locs C => ?_)
    refine lv_if_ne (tgt := 16) S.1 S.2.1 dX7_copy_11 (by decide) (fun c4 => ?_) (fun c4 => ?_)
    · rw [if_neg c4] at hm
      refine lv_aload_n S.1 S.2.1 dX7_copy_16 rfl (lv_at hl 0 rfl) ?_
      refine g_get (k := 0) (ci := 6) (f := 0) (v := .ref (ad 1))  S C kiX7_copy_X7 kfX7_copy_11 rfl (by decide) shC_0 rfl rfl dX7_copy_17 ?_
      refine lv_iload_n S.1 S.2.1 dX7_copy_20 rfl (lv_at hl 2 rfl) ?_
      obtain ⟨h5, hm⟩ := ck_ok hm
      refine g_aald S C (k := 1) shC_1 h5 dX7_copy_21 ?_
      refine lv_aload_n S.1 S.2.1 dX7_copy_22 rfl (lv_at hl 0 rfl) ?_
      refine g_get (k := 0) (ci := 6) (f := 0) (v := .ref (ad 1))  S C kiX7_copy_X7 kfX7_copy_11 rfl (by decide) shC_0 rfl rfl dX7_copy_23 ?_
      refine lv_iload_n S.1 S.2.1 dX7_copy_26 rfl (lv_at hl 1 rfl) ?_
      obtain ⟨h6, hm⟩ := ck_ok hm
      refine g_aald S C (k := 1) shC_1 h6 dX7_copy_27 ?_
      obtain ⟨r7, hcr7, hm⟩ := bd_ok hm
      refine gC_v C (gRV (k := (2 + 4 * x2.toNatClampNeg)) (ci := 2) (r := (RX2, TX2, 5)) (As := [.ref (ad (2 + 4 * x1.toNatClampNeg))]) (rest := []) 1 S C (c_X2_become l D cy ad M (2 + 4 * x2.toNatClampNeg) (isL_book h5) (2 + 4 * x1.toNatClampNeg) (isL_book h6) r7 hcr7) gX7_copy_X2_become rfl (by decide +kernel) (by decide) ((isL_book h5)).1 rfl rfl rfl hl.1 rfl (Nat.le_of_ble_eq_true rfl) dX7_copy_28) (fun H locs C => ?_)
      refine lv_aload_n S.1 S.2.1 dX7_copy_31 rfl (lv_at hl 0 rfl) ?_
      refine g_get (k := 0) (ci := 6) (f := 0) (v := .ref (ad 1))  S C kiX7_copy_X7 kfX7_copy_11 rfl (by decide) shC_0 rfl rfl dX7_copy_32 ?_
      refine lv_iload_n S.1 S.2.1 dX7_copy_35 rfl (lv_at hl 2 rfl) ?_
      obtain ⟨h8, hm⟩ := ck_ok hm
      refine g_aald S C (k := 1) shC_1 h8 dX7_copy_36 ?_
      refine g_get (k := (2 + 4 * x2.toNatClampNeg)) (ci := 2) (f := 4) (v := .int (r7.1 (2 + 4 * x2.toNatClampNeg) 4))  S C kiX7_copy_X2 kfX7_copy_97 rfl (by decide) ((isL_book h8)).1 rfl rfl dX7_copy_37 ?_
      exact gReti S hr hlk C (pr1 hm) (pr2 hm) dX7_copy_40
    · rw [if_pos c4] at hm
      refine lv_iconst (v := (-1 : Int32)) S.1 S.2.1 dX7_copy_14 (by decide) ?_
      exact gReti S hr hlk C (pr1 hm) (pr2 hm) dX7_copy_15
def mX7_count (M : gMem) (x1 : Int32) : Option Int32 := (mX7_isBook x1).bind fun r1 => if r1 = 0 then (some (-1 : Int32)) else (ck (inb x1 6) <| some (M.1 (2 + 4 * x1.toNatClampNeg) 4))
set_option maxHeartbeats 4000000 in
set_option maxRecDepth 100000 in
theorem c_X7_count (l : Launch) (D : va_G) (cy : gCy) (ad : Nat → Nat) (M : gMem) (x1 : Int32) (r0 : Int32) (hm : mX7_count M x1 = some r0) : Met l yX7_count wsX7_count (gR 1 20) (va_Pc [.ref (ad 0), .int x1] (gP shC D cy ad M)) (gQi shC D cy ad r0 M) 0 0 (gA shC ad) := by
  refine gEnter (cc := cX7_count) (maxL := 2) (ret := (some .int)) (by decide) rfl (Nat.le_of_ble_eq_true rfl) ?_
  intro p e s m below meth c ls S hr hlk C hl
  have S : CallFix p m c cX7_count 2 s _ wsX7_count RX7 := S
  have hl : lv_has ls 2 [(0, .ref (ad 0)), (1, .int x1)] := hl
  rw [mX7_count] at hm
  refine lv_iload_n S.1 S.2.1 dX7_count_0 rfl (lv_at hl 1 rfl) ?_
  obtain ⟨r1, hcr1, hm⟩ := bd_ok hm
  refine gC_i C (gRS (As := [.int x1]) (rest := []) 1 S C (c_X7_isBook l D cy ad M x1 r1 hcr1) gX7_count_X7_isBook rfl (by decide +kernel) (by decide) rfl hl.1 rfl (Nat.le_of_ble_eq_true rfl) dX7_count_1) (fun H locs C => ?_)
  refine lv_if_eq (tgt := 19) S.1 S.2.1 dX7_count_4 (by decide) (fun c2 => ?_) (fun c2 => ?_)
  · rw [if_pos c2] at hm
    refine lv_iconst (v := (-1 : Int32)) S.1 S.2.1 dX7_count_19 (by decide) ?_
    exact gReti S hr hlk C (Option.some.inj hm) rfl dX7_count_20
  · rw [if_neg c2] at hm
    refine lv_aload_n S.1 S.2.1 dX7_count_7 rfl (lv_at hl 0 rfl) ?_
    refine g_get (k := 0) (ci := 6) (f := 0) (v := .ref (ad 1))  S C kiX7_count_X7 kfX7_count_11 rfl (by decide) shC_0 rfl rfl dX7_count_8 ?_
    refine lv_iload_n S.1 S.2.1 dX7_count_11 rfl (lv_at hl 1 rfl) ?_
    obtain ⟨h3, hm⟩ := ck_ok hm
    refine g_aald S C (k := 1) shC_1 h3 dX7_count_12 ?_
    refine g_get (k := (2 + 4 * x1.toNatClampNeg)) (ci := 2) (f := 4) (v := .int (M.1 (2 + 4 * x1.toNatClampNeg) 4))  S C kiX7_count_X2 kfX7_count_97 rfl (by decide) ((isL_book h3)).1 rfl rfl dX7_count_13 ?_
    refine lv_goto (tgt := 20) S.1 S.2.1 dX7_count_16 (by decide) ?_
    exact gReti S hr hlk C (Option.some.inj hm) rfl dX7_count_20
def mX7_line (M : gMem) (x1 : Int32) (x2 : Int32) (x3 : Int32) : Option Int64 := (mX7_isBook x1).bind fun r1 => if r1 = 0 then (some (-1 : Int64)) else (if x2 < 0 then (some (-1 : Int64)) else (ck (inb x1 6) <| if x2 < (M.1 (2 + 4 * x1.toNatClampNeg) 4) then (if x3 = (0 : Int32) then (ck (inb x1 6) <| (mX2_first M (2 + 4 * x1.toNatClampNeg) x2).bind fun r8 => some r8) else (if x3 = (1 : Int32) then (ck (inb x1 6) <| ck (inb x2 (lnOf (2 + 4 * x1.toNatClampNeg))) <| some ((M.1 ((2 + 4 * x1.toNatClampNeg) + 2) x2.toNatClampNeg).toInt64)) else (if x3 = (2 : Int32) then (ck (inb x1 6) <| ck (inb x2 (lnOf (2 + 4 * x1.toNatClampNeg))) <| some ((M.1 ((2 + 4 * x1.toNatClampNeg) + 3) x2.toNatClampNeg).toInt64)) else (some (-1 : Int64))))) else (some (-1 : Int64))))
set_option maxHeartbeats 4000000 in
set_option maxRecDepth 100000 in
theorem c_X7_line (l : Launch) (D : va_G) (cy : gCy) (ad : Nat → Nat) (M : gMem) (x1 : Int32) (x2 : Int32) (x3 : Int32) (r0 : Int64) (hm : mX7_line M x1 x2 x3 = some r0) : Met l yX7_line wsX7_line (gR 2 41) (va_Pc [.ref (ad 0), .int x1, .int x2, .int x3] (gP shC D cy ad M)) (gQl shC D cy ad r0 M) 0 0 (gA shC ad) := by
  refine gEnter (cc := cX7_line) (maxL := 4) (ret := (some .long)) (by decide) rfl (Nat.le_of_ble_eq_true rfl) ?_
  intro p e s m below meth c ls S hr hlk C hl
  have S : CallFix p m c cX7_line 4 s _ wsX7_line RX7 := S
  have hl : lv_has ls 4 [(0, .ref (ad 0)), (1, .int x1), (2, .int x2), (3, .int x3)] := hl
  rw [mX7_line] at hm
  refine lv_iload_n S.1 S.2.1 dX7_line_0 rfl (lv_at hl 1 rfl) ?_
  obtain ⟨r1, hcr1, hm⟩ := bd_ok hm
  refine gC_i C (gRS (As := [.int x1]) (rest := []) 1 S C (c_X7_isBook l D cy ad M x1 r1 hcr1) gX7_line_X7_isBook rfl (by decide +kernel) (by decide) rfl hl.1 rfl (Nat.le_of_ble_eq_true rfl) dX7_line_1) (fun H locs C => ?_)
  refine lv_if_eq (tgt := 24) S.1 S.2.1 dX7_line_4 (by decide) (fun c2 => ?_) (fun c2 => ?_)
  · rw [if_pos c2] at hm
    refine lv_ldc2 (v := (-1 : Int64)) S.1 S.2.1 S.2.2.2.1 (S.2.2.2.2 _ kcX7_line_101) dX7_line_24 ?_
    exact gRetl S hr hlk C (Option.some.inj hm) rfl dX7_line_27
  · rw [if_neg c2] at hm
    refine lv_iload_n S.1 S.2.1 dX7_line_7 rfl (lv_at hl 2 rfl) ?_
    refine lv_if_lt (tgt := 24) S.1 S.2.1 dX7_line_8 (by decide) (fun c3 => ?_) (fun c3 => ?_)
    · rw [if_pos c3] at hm
      refine lv_ldc2 (v := (-1 : Int64)) S.1 S.2.1 S.2.2.2.1 (S.2.2.2.2 _ kcX7_line_101) dX7_line_24 ?_
      exact gRetl S hr hlk C (Option.some.inj hm) rfl dX7_line_27
    · rw [if_neg c3] at hm
      refine lv_iload_n S.1 S.2.1 dX7_line_11 rfl (lv_at hl 2 rfl) ?_
      refine lv_aload_n S.1 S.2.1 dX7_line_12 rfl (lv_at hl 0 rfl) ?_
      refine g_get (k := 0) (ci := 6) (f := 0) (v := .ref (ad 1))  S C kiX7_line_X7 kfX7_line_11 rfl (by decide) shC_0 rfl rfl dX7_line_13 ?_
      refine lv_iload_n S.1 S.2.1 dX7_line_16 rfl (lv_at hl 1 rfl) ?_
      obtain ⟨h4, hm⟩ := ck_ok hm
      refine g_aald S C (k := 1) shC_1 h4 dX7_line_17 ?_
      refine g_get (k := (2 + 4 * x1.toNatClampNeg)) (ci := 2) (f := 4) (v := .int (M.1 (2 + 4 * x1.toNatClampNeg) 4))  S C kiX7_line_X2 kfX7_line_97 rfl (by decide) ((isL_book h4)).1 rfl rfl dX7_line_18 ?_
      refine lv_icmp_lt (tgt := 28) S.1 S.2.1 dX7_line_21 (by decide) (fun c5 => ?_) (fun c5 => ?_)
      · rw [if_pos c5] at hm
        refine lv_iload_n S.1 S.2.1 dX7_line_28 rfl (lv_at hl 3 rfl) ?_
        by_cases c6 : x3 = (0 : Int32)
        · rw [if_pos c6] at hm
          refine lv_tableIn (tgt := 56) S.1 S.2.1 dX7_line_29 (by rw [c6]; decide) (by rw [c6]; decide) (by rw [c6]; rfl) (by decide) ?_
          refine lv_aload_n S.1 S.2.1 dX7_line_56 rfl (lv_at hl 0 rfl) ?_
          refine g_get (k := 0) (ci := 6) (f := 0) (v := .ref (ad 1))  S C kiX7_line_X7 kfX7_line_11 rfl (by decide) shC_0 rfl rfl dX7_line_57 ?_
          refine lv_iload_n S.1 S.2.1 dX7_line_60 rfl (lv_at hl 1 rfl) ?_
          obtain ⟨h7, hm⟩ := ck_ok hm
          refine g_aald S C (k := 1) shC_1 h7 dX7_line_61 ?_
          refine lv_iload_n S.1 S.2.1 dX7_line_62 rfl (lv_at hl 2 rfl) ?_
          obtain ⟨r8, hcr8, hm⟩ := bd_ok hm
          refine gC_l C (gRV (k := (2 + 4 * x1.toNatClampNeg)) (ci := 2) (r := (RX2, TX2, 5)) (As := [.int x2]) (rest := []) 1 S C (c_X2_first l D cy ad M (2 + 4 * x1.toNatClampNeg) (isL_book h7) x2 r8 hcr8) gX7_line_X2_first rfl (by decide +kernel) (by decide) ((isL_book h7)).1 rfl rfl rfl hl.1 rfl (Nat.le_of_ble_eq_true rfl) dX7_line_63) (fun H locs C => ?_)
          exact gRetl S hr hlk C (Option.some.inj hm) rfl dX7_line_66
        · rw [if_neg c6] at hm
          by_cases c9 : x3 = (1 : Int32)
          · rw [if_pos c9] at hm
            refine lv_tableIn (tgt := 67) S.1 S.2.1 dX7_line_29 (by rw [c9]; decide) (by rw [c9]; decide) (by rw [c9]; rfl) (by decide) ?_
            refine lv_aload_n S.1 S.2.1 dX7_line_67 rfl (lv_at hl 0 rfl) ?_
            refine g_get (k := 0) (ci := 6) (f := 0) (v := .ref (ad 1))  S C kiX7_line_X7 kfX7_line_11 rfl (by decide) shC_0 rfl rfl dX7_line_68 ?_
            refine lv_iload_n S.1 S.2.1 dX7_line_71 rfl (lv_at hl 1 rfl) ?_
            obtain ⟨h10, hm⟩ := ck_ok hm
            refine g_aald S C (k := 1) shC_1 h10 dX7_line_72 ?_
            refine g_get (k := (2 + 4 * x1.toNatClampNeg)) (ci := 2) (f := 1) (v := .ref (ad ((2 + 4 * x1.toNatClampNeg) + 2)))  S C kiX7_line_X2 kfX7_line_107 rfl (by decide) ((isL_book h10)).1 rfl rfl dX7_line_73 ?_
            refine lv_iload_n S.1 S.2.1 dX7_line_76 rfl (lv_at hl 2 rfl) ?_
            obtain ⟨h11, hm⟩ := ck_ok hm
            refine g_iald S C (k := ((2 + 4 * x1.toNatClampNeg) + 2)) ((isL_book h10)).2.2.1 h11 dX7_line_77 ?_
            refine lv_i2l (v := (M.1 ((2 + 4 * x1.toNatClampNeg) + 2) x2.toNatClampNeg).toInt64) S.1 S.2.1 dX7_line_78 rfl ?_
            exact gRetl S hr hlk C (Option.some.inj hm) rfl dX7_line_79
          · rw [if_neg c9] at hm
            by_cases c12 : x3 = (2 : Int32)
            · rw [if_pos c12] at hm
              refine lv_tableIn (tgt := 80) S.1 S.2.1 dX7_line_29 (by rw [c12]; decide) (by rw [c12]; decide) (by rw [c12]; rfl) (by decide) ?_
              refine lv_aload_n S.1 S.2.1 dX7_line_80 rfl (lv_at hl 0 rfl) ?_
              refine g_get (k := 0) (ci := 6) (f := 0) (v := .ref (ad 1))  S C kiX7_line_X7 kfX7_line_11 rfl (by decide) shC_0 rfl rfl dX7_line_81 ?_
              refine lv_iload_n S.1 S.2.1 dX7_line_84 rfl (lv_at hl 1 rfl) ?_
              obtain ⟨h13, hm⟩ := ck_ok hm
              refine g_aald S C (k := 1) shC_1 h13 dX7_line_85 ?_
              refine g_get (k := (2 + 4 * x1.toNatClampNeg)) (ci := 2) (f := 2) (v := .ref (ad ((2 + 4 * x1.toNatClampNeg) + 3)))  S C kiX7_line_X2 kfX7_line_82 rfl (by decide) ((isL_book h13)).1 rfl rfl dX7_line_86 ?_
              refine lv_iload_n S.1 S.2.1 dX7_line_89 rfl (lv_at hl 2 rfl) ?_
              obtain ⟨h14, hm⟩ := ck_ok hm
              refine g_iald S C (k := ((2 + 4 * x1.toNatClampNeg) + 3)) ((isL_book h13)).2.2.2 h14 dX7_line_90 ?_
              refine lv_i2l (v := (M.1 ((2 + 4 * x1.toNatClampNeg) + 3) x2.toNatClampNeg).toInt64) S.1 S.2.1 dX7_line_91 rfl ?_
              exact gRetl S hr hlk C (Option.some.inj hm) rfl dX7_line_92
            · rw [if_neg c12] at hm
              refine lv_tableOut (tgt := 93) S.1 S.2.1 dX7_line_29 (tb3 c6 c9 c12) (by decide) ?_
              refine lv_ldc2 (v := (-1 : Int64)) S.1 S.2.1 S.2.2.2.1 (S.2.2.2.2 _ kcX7_line_101) dX7_line_93 ?_
              exact gRetl S hr hlk C (Option.some.inj hm) rfl dX7_line_96
      · rw [if_neg c5] at hm
        refine lv_ldc2 (v := (-1 : Int64)) S.1 S.2.1 S.2.2.2.1 (S.2.2.2.2 _ kcX7_line_101) dX7_line_24 ?_
        exact gRetl S hr hlk C (Option.some.inj hm) rfl dX7_line_27
def mX7_find (M : gMem) (x1 : Int32) (x2 : Int32) : Option Int32 := (mX7_isBook x1).bind fun r1 => if r1 = 0 then (some (-1 : Int32)) else (ck (inb x1 6) <| ck (inb x1 6) <| (mX2_goalAmong M (2 + 4 * x1.toNatClampNeg) (M.1 (2 + 4 * x1.toNatClampNeg) 4) x2).bind fun r5 => some r5)
set_option maxHeartbeats 4000000 in
set_option maxRecDepth 100000 in
theorem c_X7_find (l : Launch) (D : va_G) (cy : gCy) (ad : Nat → Nat) (M : gMem) (x1 : Int32) (x2 : Int32) (r0 : Int32) (hm : mX7_find M x1 x2 = some r0) : Met l yX7_find wsX7_find (gR 5 111) (va_Pc [.ref (ad 0), .int x1, .int x2] (gP shC D cy ad M)) (gQi shC D cy ad r0 M) 0 0 (gA shC ad) := by
  refine gEnter (cc := cX7_find) (maxL := 3) (ret := (some .int)) (by decide) rfl (Nat.le_of_ble_eq_true rfl) ?_
  intro p e s m below meth c ls S hr hlk C hl
  have S : CallFix p m c cX7_find 3 s _ wsX7_find RX7 := S
  have hl : lv_has ls 3 [(0, .ref (ad 0)), (1, .int x1), (2, .int x2)] := hl
  rw [mX7_find] at hm
  refine lv_iload_n S.1 S.2.1 dX7_find_0 rfl (lv_at hl 1 rfl) ?_
  obtain ⟨r1, hcr1, hm⟩ := bd_ok hm
  refine gC_i C (gRS (As := [.int x1]) (rest := []) 1 S C (c_X7_isBook l D cy ad M x1 r1 hcr1) gX7_find_X7_isBook rfl (by decide +kernel) (by decide) rfl hl.1 rfl (Nat.le_of_ble_eq_true rfl) dX7_find_1) (fun H locs C => ?_)
  refine lv_if_eq (tgt := 29) S.1 S.2.1 dX7_find_4 (by decide) (fun c2 => ?_) (fun c2 => ?_)
  · rw [if_pos c2] at hm
    refine lv_iconst (v := (-1 : Int32)) S.1 S.2.1 dX7_find_29 (by decide) ?_
    exact gReti S hr hlk C (Option.some.inj hm) rfl dX7_find_30
  · rw [if_neg c2] at hm
    refine lv_aload_n S.1 S.2.1 dX7_find_7 rfl (lv_at hl 0 rfl) ?_
    refine g_get (k := 0) (ci := 6) (f := 0) (v := .ref (ad 1))  S C kiX7_find_X7 kfX7_find_11 rfl (by decide) shC_0 rfl rfl dX7_find_8 ?_
    refine lv_iload_n S.1 S.2.1 dX7_find_11 rfl (lv_at hl 1 rfl) ?_
    obtain ⟨h3, hm⟩ := ck_ok hm
    refine g_aald S C (k := 1) shC_1 h3 dX7_find_12 ?_
    refine lv_aload_n S.1 S.2.1 dX7_find_13 rfl (lv_at hl 0 rfl) ?_
    refine g_get (k := 0) (ci := 6) (f := 0) (v := .ref (ad 1))  S C kiX7_find_X7 kfX7_find_11 rfl (by decide) shC_0 rfl rfl dX7_find_14 ?_
    refine lv_iload_n S.1 S.2.1 dX7_find_17 rfl (lv_at hl 1 rfl) ?_
    obtain ⟨h4, hm⟩ := ck_ok hm
    refine g_aald S C (k := 1) shC_1 h4 dX7_find_18 ?_
    refine g_get (k := (2 + 4 * x1.toNatClampNeg)) (ci := 2) (f := 4) (v := .int (M.1 (2 + 4 * x1.toNatClampNeg) 4))  S C kiX7_find_X2 kfX7_find_97 rfl (by decide) ((isL_book h4)).1 rfl rfl dX7_find_19 ?_
    refine lv_iload_n S.1 S.2.1 dX7_find_22 rfl (lv_at hl 2 rfl) ?_
    obtain ⟨r5, hcr5, hm⟩ := bd_ok hm
    refine gC_i C (gRV (k := (2 + 4 * x1.toNatClampNeg)) (ci := 2) (r := (RX2, TX2, 5)) (As := [.int (M.1 (2 + 4 * x1.toNatClampNeg) 4), .int x2]) (rest := []) 2 S C (c_X2_goalAmong l D cy ad M (2 + 4 * x1.toNatClampNeg) (isL_book h3) (M.1 (2 + 4 * x1.toNatClampNeg) 4) x2 r5 hcr5) gX7_find_X2_goalAmong rfl (by decide +kernel) (by decide) ((isL_book h3)).1 rfl rfl rfl hl.1 rfl (Nat.le_of_ble_eq_true rfl) dX7_find_23) (fun H locs C => ?_)
    refine lv_goto (tgt := 30) S.1 S.2.1 dX7_find_26 (by decide) ?_
    exact gReti S hr hlk C (Option.some.inj hm) rfl dX7_find_30
def mX7_longest (M : gMem) (x1 : Int32) (x2 : Int32) : Option Int32 := (mX7_isBook x1).bind fun r1 => if r1 = 0 then (some (-1 : Int32)) else (ck (inb x1 6) <| ck (inb x1 6) <| (mX2_lastHolder M (2 + 4 * x1.toNatClampNeg) (M.1 (2 + 4 * x1.toNatClampNeg) 4) x2).bind fun r5 => some r5)
set_option maxHeartbeats 4000000 in
set_option maxRecDepth 100000 in
theorem c_X7_longest (l : Launch) (D : va_G) (cy : gCy) (ad : Nat → Nat) (M : gMem) (x1 : Int32) (x2 : Int32) (r0 : Int32) (hm : mX7_longest M x1 x2 = some r0) : Met l yX7_longest wsX7_longest (gR 4 88) (va_Pc [.ref (ad 0), .int x1, .int x2] (gP shC D cy ad M)) (gQi shC D cy ad r0 M) 0 0 (gA shC ad) := by
  refine gEnter (cc := cX7_longest) (maxL := 3) (ret := (some .int)) (by decide) rfl (Nat.le_of_ble_eq_true rfl) ?_
  intro p e s m below meth c ls S hr hlk C hl
  have S : CallFix p m c cX7_longest 3 s _ wsX7_longest RX7 := S
  have hl : lv_has ls 3 [(0, .ref (ad 0)), (1, .int x1), (2, .int x2)] := hl
  rw [mX7_longest] at hm
  refine lv_iload_n S.1 S.2.1 dX7_longest_0 rfl (lv_at hl 1 rfl) ?_
  obtain ⟨r1, hcr1, hm⟩ := bd_ok hm
  refine gC_i C (gRS (As := [.int x1]) (rest := []) 1 S C (c_X7_isBook l D cy ad M x1 r1 hcr1) gX7_longest_X7_isBook rfl (by decide +kernel) (by decide) rfl hl.1 rfl (Nat.le_of_ble_eq_true rfl) dX7_longest_1) (fun H locs C => ?_)
  refine lv_if_eq (tgt := 29) S.1 S.2.1 dX7_longest_4 (by decide) (fun c2 => ?_) (fun c2 => ?_)
  · rw [if_pos c2] at hm
    refine lv_iconst (v := (-1 : Int32)) S.1 S.2.1 dX7_longest_29 (by decide) ?_
    exact gReti S hr hlk C (Option.some.inj hm) rfl dX7_longest_30
  · rw [if_neg c2] at hm
    refine lv_aload_n S.1 S.2.1 dX7_longest_7 rfl (lv_at hl 0 rfl) ?_
    refine g_get (k := 0) (ci := 6) (f := 0) (v := .ref (ad 1))  S C kiX7_longest_X7 kfX7_longest_11 rfl (by decide) shC_0 rfl rfl dX7_longest_8 ?_
    refine lv_iload_n S.1 S.2.1 dX7_longest_11 rfl (lv_at hl 1 rfl) ?_
    obtain ⟨h3, hm⟩ := ck_ok hm
    refine g_aald S C (k := 1) shC_1 h3 dX7_longest_12 ?_
    refine lv_aload_n S.1 S.2.1 dX7_longest_13 rfl (lv_at hl 0 rfl) ?_
    refine g_get (k := 0) (ci := 6) (f := 0) (v := .ref (ad 1))  S C kiX7_longest_X7 kfX7_longest_11 rfl (by decide) shC_0 rfl rfl dX7_longest_14 ?_
    refine lv_iload_n S.1 S.2.1 dX7_longest_17 rfl (lv_at hl 1 rfl) ?_
    obtain ⟨h4, hm⟩ := ck_ok hm
    refine g_aald S C (k := 1) shC_1 h4 dX7_longest_18 ?_
    refine g_get (k := (2 + 4 * x1.toNatClampNeg)) (ci := 2) (f := 4) (v := .int (M.1 (2 + 4 * x1.toNatClampNeg) 4))  S C kiX7_longest_X2 kfX7_longest_97 rfl (by decide) ((isL_book h4)).1 rfl rfl dX7_longest_19 ?_
    refine lv_iload_n S.1 S.2.1 dX7_longest_22 rfl (lv_at hl 2 rfl) ?_
    obtain ⟨r5, hcr5, hm⟩ := bd_ok hm
    refine gC_i C (gRV (k := (2 + 4 * x1.toNatClampNeg)) (ci := 2) (r := (RX2, TX2, 5)) (As := [.int (M.1 (2 + 4 * x1.toNatClampNeg) 4), .int x2]) (rest := []) 2 S C (c_X2_lastHolder l D cy ad M (2 + 4 * x1.toNatClampNeg) (isL_book h3) (M.1 (2 + 4 * x1.toNatClampNeg) 4) x2 r5 hcr5) gX7_longest_X2_lastHolder rfl (by decide +kernel) (by decide) ((isL_book h3)).1 rfl rfl rfl hl.1 rfl (Nat.le_of_ble_eq_true rfl) dX7_longest_23) (fun H locs C => ?_)
    refine lv_goto (tgt := 30) S.1 S.2.1 dX7_longest_26 (by decide) ?_
    exact gReti S hr hlk C (Option.some.inj hm) rfl dX7_longest_30
def mX7_least (M : gMem) (x1 : Int32) (x2 : Int32) : Option (Int32 × gMem) := (mX7_isBook x1).bind fun r1 => if r1 = 0 then (some ((-1 : Int32), M)) else ((mX7_isBook x2).bind fun r3 => if r3 = 0 then (some ((-1 : Int32), M)) else (ck (inb x1 6) <| ck (inb x2 6) <| (mX7_becomeLeast M (2 + 4 * x1.toNatClampNeg) (2 + 4 * x2.toNatClampNeg)).bind fun r7 => some (r7.1, r7.2)))
set_option maxHeartbeats 4000000 in
set_option maxRecDepth 100000 in
theorem c_X7_least (l : Launch) (D : va_G) (cy : gCy) (ad : Nat → Nat) (M : gMem) (x1 : Int32) (x2 : Int32) (r0 : (Int32 × gMem)) (hm : mX7_least M x1 x2 = some r0) : Met l yX7_least wsX7_least (gR 163 4268) (va_Pc [.ref (ad 0), .int x1, .int x2] (gP shC D cy ad M)) (gQi shC D cy ad r0.1 r0.2) 0 0 (gA shC ad) := by
  refine gEnter (cc := cX7_least) (maxL := 3) (ret := (some .int)) (by decide) rfl (Nat.le_of_ble_eq_true rfl) ?_
  intro p e s m below meth c ls S hr hlk C hl
  have S : CallFix p m c cX7_least 3 s _ wsX7_least RX7 := S
  have hl : lv_has ls 3 [(0, .ref (ad 0)), (1, .int x1), (2, .int x2)] := hl
  rw [mX7_least] at hm
  refine lv_iload_n S.1 S.2.1 dX7_least_0 rfl (lv_at hl 1 rfl) ?_
  obtain ⟨r1, hcr1, hm⟩ := bd_ok hm
  refine gC_i C (gRS (As := [.int x1]) (rest := []) 1 S C (c_X7_isBook l D cy ad M x1 r1 hcr1) gX7_least_X7_isBook rfl (by decide +kernel) (by decide) rfl hl.1 rfl (Nat.le_of_ble_eq_true rfl) dX7_least_1) (fun H locs C => ?_)
  refine lv_if_eq (tgt := 14) S.1 S.2.1 dX7_least_4 (by decide) (fun c2 => ?_) (fun c2 => ?_)
  · rw [if_pos c2] at hm
    refine lv_iconst (v := (-1 : Int32)) S.1 S.2.1 dX7_least_14 (by decide) ?_
    exact gReti S hr hlk C (pr1 hm) (pr2 hm) dX7_least_15
  · rw [if_neg c2] at hm
    refine lv_iload_n S.1 S.2.1 dX7_least_7 rfl (lv_at hl 2 rfl) ?_
    obtain ⟨r3, hcr3, hm⟩ := bd_ok hm
    refine gC_i C (gRS (As := [.int x2]) (rest := []) 1 S C (c_X7_isBook l D cy ad M x2 r3 hcr3) gX7_least_X7_isBook rfl (by decide +kernel) (by decide) rfl hl.1 rfl (Nat.le_of_ble_eq_true rfl) dX7_least_8) (fun H locs C => ?_)
    refine lv_if_ne (tgt := 16) S.1 S.2.1 dX7_least_11 (by decide) (fun c4 => ?_) (fun c4 => ?_)
    · rw [if_neg c4] at hm
      refine lv_aload_n S.1 S.2.1 dX7_least_16 rfl (lv_at hl 0 rfl) ?_
      refine lv_aload_n S.1 S.2.1 dX7_least_17 rfl (lv_at hl 0 rfl) ?_
      refine g_get (k := 0) (ci := 6) (f := 0) (v := .ref (ad 1))  S C kiX7_least_X7 kfX7_least_11 rfl (by decide) shC_0 rfl rfl dX7_least_18 ?_
      refine lv_iload_n S.1 S.2.1 dX7_least_21 rfl (lv_at hl 1 rfl) ?_
      obtain ⟨h5, hm⟩ := ck_ok hm
      refine g_aald S C (k := 1) shC_1 h5 dX7_least_22 ?_
      refine lv_aload_n S.1 S.2.1 dX7_least_23 rfl (lv_at hl 0 rfl) ?_
      refine g_get (k := 0) (ci := 6) (f := 0) (v := .ref (ad 1))  S C kiX7_least_X7 kfX7_least_11 rfl (by decide) shC_0 rfl rfl dX7_least_24 ?_
      refine lv_iload_n S.1 S.2.1 dX7_least_27 rfl (lv_at hl 2 rfl) ?_
      obtain ⟨h6, hm⟩ := ck_ok hm
      refine g_aald S C (k := 1) shC_1 h6 dX7_least_28 ?_
      obtain ⟨r7, hcr7, hm⟩ := bd_ok hm
      refine gC_i C (gRV (k := 0) (ci := 6) (r := (RX7, TX7, 9)) (As := [.ref (ad (2 + 4 * x1.toNatClampNeg)), .ref (ad (2 + 4 * x2.toNatClampNeg))]) (rest := []) 2 S C (c_X7_becomeLeast l D cy ad M (2 + 4 * x1.toNatClampNeg) (isL_book h5) (2 + 4 * x2.toNatClampNeg) (isL_book h6) r7 hcr7) gX7_least_X7_becomeLeast rfl (by decide +kernel) (by decide) shC_0 rfl rfl rfl hl.1 rfl (Nat.le_of_ble_eq_true rfl) dX7_least_29) (fun H locs C => ?_)
      exact gReti S hr hlk C (pr1 hm) (pr2 hm) dX7_least_32
    · rw [if_pos c4] at hm
      refine lv_iconst (v := (-1 : Int32)) S.1 S.2.1 dX7_least_14 (by decide) ?_
      exact gReti S hr hlk C (pr1 hm) (pr2 hm) dX7_least_15
def mX7_set (M : gMem) (x1 : Int32) (x2 : Int32) (x3 : Int32) : Option (Int32 × gMem) := (mX7_isBook x1).bind fun r1 => if r1 = 0 then (some ((-1 : Int32), M)) else ((mX7_isBeginning x2 x3).bind fun r3 => if r3 = 0 then (some ((-1 : Int32), M)) else (ck (inb x1 6) <| (mX2_placeOf M (2 + 4 * x1.toNatClampNeg) x2 x3).bind fun r6 => (mX2_endOf M (2 + 4 * x1.toNatClampNeg) r6 x2 x3).bind fun r7 => (mX2_goalAmong M (2 + 4 * x1.toNatClampNeg) r6 x2).bind fun r8 => (mX5_plant M (2 + 4 * x1.toNatClampNeg) r6 r7 x2 x3 r8).bind fun r9 => (mX5_setOfTop r9).bind fun r10 => some (r10, r9)))
set_option maxHeartbeats 4000000 in
set_option maxRecDepth 100000 in
theorem c_X7_set (l : Launch) (D : va_G) (cy : gCy) (ad : Nat → Nat) (M : gMem) (x1 : Int32) (x2 : Int32) (x3 : Int32) (r0 : (Int32 × gMem)) (hm : mX7_set M x1 x2 x3 = some r0) : Met l yX7_set wsX7_set (gR 122 2816) (va_Pc [.ref (ad 0), .int x1, .int x2, .int x3] (gP shC D cy ad M)) (gQi shC D cy ad r0.1 r0.2) 0 0 (gA shC ad) := by
  refine gEnter (cc := cX7_set) (maxL := 7) (ret := (some .int)) (by decide) rfl (Nat.le_of_ble_eq_true rfl) ?_
  intro p e s m below meth c ls S hr hlk C hl
  have S : CallFix p m c cX7_set 7 s _ wsX7_set RX7 := S
  have hl : lv_has ls 7 [(0, .ref (ad 0)), (1, .int x1), (2, .int x2), (3, .int x3)] := hl
  rw [mX7_set] at hm
  refine lv_iload_n S.1 S.2.1 dX7_set_0 rfl (lv_at hl 1 rfl) ?_
  obtain ⟨r1, hcr1, hm⟩ := bd_ok hm
  refine gC_i C (gRS (As := [.int x1]) (rest := []) 1 S C (c_X7_isBook l D cy ad M x1 r1 hcr1) gX7_set_X7_isBook rfl (by decide +kernel) (by decide) rfl hl.1 rfl (Nat.le_of_ble_eq_true rfl) dX7_set_1) (fun H locs C => ?_)
  refine lv_if_eq (tgt := 15) S.1 S.2.1 dX7_set_4 (by decide) (fun c2 => ?_) (fun c2 => ?_)
  · rw [if_pos c2] at hm
    refine lv_iconst (v := (-1 : Int32)) S.1 S.2.1 dX7_set_15 (by decide) ?_
    exact gReti S hr hlk C (pr1 hm) (pr2 hm) dX7_set_16
  · rw [if_neg c2] at hm
    refine lv_iload_n S.1 S.2.1 dX7_set_7 rfl (lv_at hl 2 rfl) ?_
    refine lv_iload_n S.1 S.2.1 dX7_set_8 rfl (lv_at hl 3 rfl) ?_
    obtain ⟨r3, hcr3, hm⟩ := bd_ok hm
    refine gC_i C (gRS (As := [.int x2, .int x3]) (rest := []) 2 S C (c_X7_isBeginning l D cy ad M x2 x3 r3 hcr3) gX7_set_X7_isBeginning rfl (by decide +kernel) (by decide) rfl hl.1 rfl (Nat.le_of_ble_eq_true rfl) dX7_set_9) (fun H locs C => ?_)
    refine lv_if_ne (tgt := 17) S.1 S.2.1 dX7_set_12 (by decide) (fun c4 => ?_) (fun c4 => ?_)
    · rw [if_neg c4] at hm
      refine lv_aload_n S.1 S.2.1 dX7_set_17 rfl (lv_at hl 0 rfl) ?_
      refine g_get (k := 0) (ci := 6) (f := 0) (v := .ref (ad 1))  S C kiX7_set_X7 kfX7_set_11 rfl (by decide) shC_0 rfl rfl dX7_set_18 ?_
      refine lv_iload_n S.1 S.2.1 dX7_set_21 rfl (lv_at hl 1 rfl) ?_
      obtain ⟨h5, hm⟩ := ck_ok hm
      refine g_aald S C (k := 1) shC_1 h5 dX7_set_22 ?_
      refine lv_astore (lv' := [(4, .ref (ad (2 + 4 * x1.toNatClampNeg))), (0, .ref (ad 0)), (1, .int x1), (2, .int x2), (3, .int x3)]) S.1 S.2.1 dX7_set_23 hl (by decide) rfl (fun ls hl => ?_)
      refine lv_aload S.1 S.2.1 dX7_set_25 (lv_at hl 0 rfl) ?_
      refine lv_iload_n S.1 S.2.1 dX7_set_27 rfl (lv_at hl 3 rfl) ?_
      refine lv_iload_n S.1 S.2.1 dX7_set_28 rfl (lv_at hl 4 rfl) ?_
      obtain ⟨r6, hcr6, hm⟩ := bd_ok hm
      refine gC_i C (gRV (k := (2 + 4 * x1.toNatClampNeg)) (ci := 2) (r := (RX2, TX2, 5)) (As := [.int x2, .int x3]) (rest := []) 2 S C (c_X2_placeOf l D cy ad M (2 + 4 * x1.toNatClampNeg) (isL_book h5) x2 x3 r6 hcr6) gX7_set_X2_placeOf rfl (by decide +kernel) (by decide) ((isL_book h5)).1 rfl rfl rfl hl.1 rfl (Nat.le_of_ble_eq_true rfl) dX7_set_29) (fun H locs C => ?_)
      refine lv_istore (lv' := [(5, .int r6), (4, .ref (ad (2 + 4 * x1.toNatClampNeg))), (0, .ref (ad 0)), (1, .int x1), (2, .int x2), (3, .int x3)]) S.1 S.2.1 dX7_set_32 hl (by decide) rfl (fun ls hl => ?_)
      refine lv_aload S.1 S.2.1 dX7_set_34 (lv_at hl 1 rfl) ?_
      refine lv_iload S.1 S.2.1 dX7_set_36 (lv_at hl 0 rfl) ?_
      refine lv_iload_n S.1 S.2.1 dX7_set_38 rfl (lv_at hl 4 rfl) ?_
      refine lv_iload_n S.1 S.2.1 dX7_set_39 rfl (lv_at hl 5 rfl) ?_
      obtain ⟨r7, hcr7, hm⟩ := bd_ok hm
      refine gC_i C (gRV (k := (2 + 4 * x1.toNatClampNeg)) (ci := 2) (r := (RX2, TX2, 5)) (As := [.int r6, .int x2, .int x3]) (rest := []) 3 S C (c_X2_endOf l D cy ad M (2 + 4 * x1.toNatClampNeg) (isL_book h5) r6 x2 x3 r7 hcr7) gX7_set_X2_endOf rfl (by decide +kernel) (by decide) ((isL_book h5)).1 rfl rfl rfl hl.1 rfl (Nat.le_of_ble_eq_true rfl) dX7_set_40) (fun H locs C => ?_)
      refine lv_istore (lv' := [(6, .int r7), (5, .int r6), (4, .ref (ad (2 + 4 * x1.toNatClampNeg))), (0, .ref (ad 0)), (1, .int x1), (2, .int x2), (3, .int x3)]) S.1 S.2.1 dX7_set_43 hl (by decide) rfl (fun ls hl => ?_)
      refine lv_aload_n S.1 S.2.1 dX7_set_45 rfl (lv_at hl 3 rfl) ?_
      refine g_get (k := 0) (ci := 6) (f := 3) (v := .ref (ad 34))  S C kiX7_set_X7 kfX7_set_28 rfl (by decide) shC_0 rfl rfl dX7_set_46 ?_
      refine lv_aload S.1 S.2.1 dX7_set_49 (lv_at hl 2 rfl) ?_
      refine lv_iload S.1 S.2.1 dX7_set_51 (lv_at hl 1 rfl) ?_
      refine lv_iload S.1 S.2.1 dX7_set_53 (lv_at hl 0 rfl) ?_
      refine lv_iload_n S.1 S.2.1 dX7_set_55 rfl (lv_at hl 5 rfl) ?_
      refine lv_iload_n S.1 S.2.1 dX7_set_56 rfl (lv_at hl 6 rfl) ?_
      refine lv_aload S.1 S.2.1 dX7_set_57 (lv_at hl 2 rfl) ?_
      refine lv_iload S.1 S.2.1 dX7_set_59 (lv_at hl 1 rfl) ?_
      refine lv_iload_n S.1 S.2.1 dX7_set_61 rfl (lv_at hl 5 rfl) ?_
      obtain ⟨r8, hcr8, hm⟩ := bd_ok hm
      refine gC_i C (gRV (k := (2 + 4 * x1.toNatClampNeg)) (ci := 2) (r := (RX2, TX2, 5)) (As := [.int r6, .int x2]) (rest := [.int x3, .int x2, .int r7, .int r6, .ref (ad (2 + 4 * x1.toNatClampNeg)), .ref (ad 34)]) 2 S C (c_X2_goalAmong l D cy ad M (2 + 4 * x1.toNatClampNeg) (isL_book h5) r6 x2 r8 hcr8) gX7_set_X2_goalAmong rfl (by decide +kernel) (by decide) ((isL_book h5)).1 rfl rfl rfl hl.1 rfl (Nat.le_of_ble_eq_true rfl) dX7_set_62) (fun H locs C => ?_)
      obtain ⟨r9, hcr9, hm⟩ := bd_ok hm
      refine gC_v C (gRV (k := 34) (ci := 4) (r := (RX5, TX5, 7)) (As := [.ref (ad (2 + 4 * x1.toNatClampNeg)), .int r6, .int r7, .int x2, .int x3, .int r8]) (rest := []) 6 S C (c_X5_plant l D cy ad M (2 + 4 * x1.toNatClampNeg) (isL_book h5) r6 r7 x2 x3 r8 r9 hcr9) gX7_set_X5_plant rfl (by decide +kernel) (by decide) shC_34 rfl rfl rfl hl.1 rfl (Nat.le_of_ble_eq_true rfl) dX7_set_65) (fun H locs C => ?_)
      refine lv_aload_n S.1 S.2.1 dX7_set_68 rfl (lv_at hl 3 rfl) ?_
      refine g_get (k := 0) (ci := 6) (f := 3) (v := .ref (ad 34))  S C kiX7_set_X7 kfX7_set_28 rfl (by decide) shC_0 rfl rfl dX7_set_69 ?_
      obtain ⟨r10, hcr10, hm⟩ := bd_ok hm
      refine gC_i C (gRV (k := 34) (ci := 4) (r := (RX5, TX5, 7)) (As := []) (rest := []) 0 S C (c_X5_setOfTop l D cy ad r9 r10 hcr10) gX7_set_X5_setOfTop rfl (by decide +kernel) (by decide) shC_34 rfl rfl rfl hl.1 rfl (Nat.le_of_ble_eq_true rfl) dX7_set_72) (fun H locs C => ?_)
      exact gReti S hr hlk C (pr1 hm) (pr2 hm) dX7_set_75
    · rw [if_pos c4] at hm
      refine lv_iconst (v := (-1 : Int32)) S.1 S.2.1 dX7_set_15 (by decide) ?_
      exact gReti S hr hlk C (pr1 hm) (pr2 hm) dX7_set_16
def mX7_spans (M : gMem) (x1 : Int32) : Option (Int32 × gMem) := (mX7_isBook x1).bind fun r1 => if r1 = 0 then (some ((-1 : Int32), M)) else (ck (inb x1 6) <| (mX3_measure M 41 (2 + 4 * x1.toNatClampNeg)).bind fun r4 => some ((r4.1 41 2), r4))
set_option maxHeartbeats 4000000 in
set_option maxRecDepth 100000 in
theorem c_X7_spans (l : Launch) (D : va_G) (cy : gCy) (ad : Nat → Nat) (M : gMem) (x1 : Int32) (r0 : (Int32 × gMem)) (hm : mX7_spans M x1 = some r0) : Met l yX7_spans wsX7_spans (gR 5 109) (va_Pc [.ref (ad 0), .int x1] (gP shC D cy ad M)) (gQi shC D cy ad r0.1 r0.2) 0 0 (gA shC ad) := by
  refine gEnter (cc := cX7_spans) (maxL := 2) (ret := (some .int)) (by decide) rfl (Nat.le_of_ble_eq_true rfl) ?_
  intro p e s m below meth c ls S hr hlk C hl
  have S : CallFix p m c cX7_spans 2 s _ wsX7_spans RX7 := S
  have hl : lv_has ls 2 [(0, .ref (ad 0)), (1, .int x1)] := hl
  rw [mX7_spans] at hm
  refine lv_iload_n S.1 S.2.1 dX7_spans_0 rfl (lv_at hl 1 rfl) ?_
  obtain ⟨r1, hcr1, hm⟩ := bd_ok hm
  refine gC_i C (gRS (As := [.int x1]) (rest := []) 1 S C (c_X7_isBook l D cy ad M x1 r1 hcr1) gX7_spans_X7_isBook rfl (by decide +kernel) (by decide) rfl hl.1 rfl (Nat.le_of_ble_eq_true rfl) dX7_spans_1) (fun H locs C => ?_)
  refine lv_if_ne (tgt := 9) S.1 S.2.1 dX7_spans_4 (by decide) (fun c2 => ?_) (fun c2 => ?_)
  · rw [if_neg c2] at hm
    refine lv_aload_n S.1 S.2.1 dX7_spans_9 rfl (lv_at hl 0 rfl) ?_
    refine g_get (k := 0) (ci := 6) (f := 4) (v := .ref (ad 41))  S C kiX7_spans_X7 kfX7_spans_35 rfl (by decide) shC_0 rfl rfl dX7_spans_10 ?_
    refine lv_aload_n S.1 S.2.1 dX7_spans_13 rfl (lv_at hl 0 rfl) ?_
    refine g_get (k := 0) (ci := 6) (f := 0) (v := .ref (ad 1))  S C kiX7_spans_X7 kfX7_spans_11 rfl (by decide) shC_0 rfl rfl dX7_spans_14 ?_
    refine lv_iload_n S.1 S.2.1 dX7_spans_17 rfl (lv_at hl 1 rfl) ?_
    obtain ⟨h3, hm⟩ := ck_ok hm
    refine g_aald S C (k := 1) shC_1 h3 dX7_spans_18 ?_
    obtain ⟨r4, hcr4, hm⟩ := bd_ok hm
    refine gC_v C (gRV (k := 41) (ci := 3) (r := (RX3, TX3, 6)) (As := [.ref (ad (2 + 4 * x1.toNatClampNeg))]) (rest := []) 1 S C (c_X3_measure l D cy ad M 41 isS_41 (2 + 4 * x1.toNatClampNeg) (isL_book h3) r4 hcr4) gX7_spans_X3_measure rfl (by decide +kernel) (by decide) isS_41.1 rfl rfl rfl hl.1 rfl (Nat.le_of_ble_eq_true rfl) dX7_spans_19) (fun H locs C => ?_)
    refine lv_aload_n S.1 S.2.1 dX7_spans_22 rfl (lv_at hl 0 rfl) ?_
    refine g_get (k := 0) (ci := 6) (f := 4) (v := .ref (ad 41))  S C kiX7_spans_X7 kfX7_spans_35 rfl (by decide) shC_0 rfl rfl dX7_spans_23 ?_
    refine g_getN (k := 41) (ci := 3) (f := 2) (v := .int (r4.1 41 2)) (host := "PrefixLeader") S C kiX7_spans_X3 (by decide +kernel) rfl (by decide) isS_41.1 rfl rfl dX7_spans_26 ?_
    exact gReti S hr hlk C (pr1 hm) (pr2 hm) dX7_spans_29
  · rw [if_pos c2] at hm
    refine lv_iconst (v := (-1 : Int32)) S.1 S.2.1 dX7_spans_7 (by decide) ?_
    exact gReti S hr hlk C (pr1 hm) (pr2 hm) dX7_spans_8
def mX7_span (M : gMem) (x1 : Int32) (x2 : Int32) (x3 : Int32) : Option (Int64 × gMem) := (mX7_isBook x1).bind fun r1 => if r1 = 0 then (some ((-1 : Int64), M)) else (ck (inb x1 6) <| (mX3_measure M 41 (2 + 4 * x1.toNatClampNeg)).bind fun r4 => (mX3_tell r4 41 x2 x3).bind fun r5 => some (r5, r4))
set_option maxHeartbeats 4000000 in
set_option maxRecDepth 100000 in
theorem c_X7_span (l : Launch) (D : va_G) (cy : gCy) (ad : Nat → Nat) (M : gMem) (x1 : Int32) (x2 : Int32) (x3 : Int32) (r0 : (Int64 × gMem)) (hm : mX7_span M x1 x2 x3 = some r0) : Met l yX7_span wsX7_span (gR 5 109) (va_Pc [.ref (ad 0), .int x1, .int x2, .int x3] (gP shC D cy ad M)) (gQl shC D cy ad r0.1 r0.2) 0 0 (gA shC ad) := by
  refine gEnter (cc := cX7_span) (maxL := 4) (ret := (some .long)) (by decide) rfl (Nat.le_of_ble_eq_true rfl) ?_
  intro p e s m below meth c ls S hr hlk C hl
  have S : CallFix p m c cX7_span 4 s _ wsX7_span RX7 := S
  have hl : lv_has ls 4 [(0, .ref (ad 0)), (1, .int x1), (2, .int x2), (3, .int x3)] := hl
  rw [mX7_span] at hm
  refine lv_iload_n S.1 S.2.1 dX7_span_0 rfl (lv_at hl 1 rfl) ?_
  obtain ⟨r1, hcr1, hm⟩ := bd_ok hm
  refine gC_i C (gRS (As := [.int x1]) (rest := []) 1 S C (c_X7_isBook l D cy ad M x1 r1 hcr1) gX7_span_X7_isBook rfl (by decide +kernel) (by decide) rfl hl.1 rfl (Nat.le_of_ble_eq_true rfl) dX7_span_1) (fun H locs C => ?_)
  refine lv_if_ne (tgt := 11) S.1 S.2.1 dX7_span_4 (by decide) (fun c2 => ?_) (fun c2 => ?_)
  · rw [if_neg c2] at hm
    refine lv_aload_n S.1 S.2.1 dX7_span_11 rfl (lv_at hl 0 rfl) ?_
    refine g_get (k := 0) (ci := 6) (f := 4) (v := .ref (ad 41))  S C kiX7_span_X7 kfX7_span_35 rfl (by decide) shC_0 rfl rfl dX7_span_12 ?_
    refine lv_aload_n S.1 S.2.1 dX7_span_15 rfl (lv_at hl 0 rfl) ?_
    refine g_get (k := 0) (ci := 6) (f := 0) (v := .ref (ad 1))  S C kiX7_span_X7 kfX7_span_11 rfl (by decide) shC_0 rfl rfl dX7_span_16 ?_
    refine lv_iload_n S.1 S.2.1 dX7_span_19 rfl (lv_at hl 1 rfl) ?_
    obtain ⟨h3, hm⟩ := ck_ok hm
    refine g_aald S C (k := 1) shC_1 h3 dX7_span_20 ?_
    obtain ⟨r4, hcr4, hm⟩ := bd_ok hm
    refine gC_v C (gRV (k := 41) (ci := 3) (r := (RX3, TX3, 6)) (As := [.ref (ad (2 + 4 * x1.toNatClampNeg))]) (rest := []) 1 S C (c_X3_measure l D cy ad M 41 isS_41 (2 + 4 * x1.toNatClampNeg) (isL_book h3) r4 hcr4) gX7_span_X3_measure rfl (by decide +kernel) (by decide) isS_41.1 rfl rfl rfl hl.1 rfl (Nat.le_of_ble_eq_true rfl) dX7_span_21) (fun H locs C => ?_)
    refine lv_aload_n S.1 S.2.1 dX7_span_24 rfl (lv_at hl 0 rfl) ?_
    refine g_get (k := 0) (ci := 6) (f := 4) (v := .ref (ad 41))  S C kiX7_span_X7 kfX7_span_35 rfl (by decide) shC_0 rfl rfl dX7_span_25 ?_
    refine lv_iload_n S.1 S.2.1 dX7_span_28 rfl (lv_at hl 2 rfl) ?_
    refine lv_iload_n S.1 S.2.1 dX7_span_29 rfl (lv_at hl 3 rfl) ?_
    obtain ⟨r5, hcr5, hm⟩ := bd_ok hm
    refine gC_l C (gRV (k := 41) (ci := 3) (r := (RX3, TX3, 6)) (As := [.int x2, .int x3]) (rest := []) 2 S C (c_X3_tell l D cy ad r4 41 isS_41 x2 x3 r5 hcr5) gX7_span_X3_tell rfl (by decide +kernel) (by decide) isS_41.1 rfl rfl rfl hl.1 rfl (Nat.le_of_ble_eq_true rfl) dX7_span_30) (fun H locs C => ?_)
    exact gRetl S hr hlk C (pr1 hm) (pr2 hm) dX7_span_33
  · rw [if_pos c2] at hm
    refine lv_ldc2 (v := (-1 : Int64)) S.1 S.2.1 S.2.2.2.1 (S.2.2.2.2 _ kcX7_span_101) dX7_span_7 ?_
    exact gRetl S hr hlk C (pr1 hm) (pr2 hm) dX7_span_10
def mX7_share (M : gMem) (x1 : Int32) (x2 : Int32) : Option (Int64 × gMem) := (mX7_isBook x1).bind fun r1 => if r1 = 0 then (some ((-1 : Int64), M)) else ((mX7_isGoal x2).bind fun r3 => if r3 = 0 then (some ((-1 : Int64), M)) else (ck (inb x1 6) <| (mX3_measure M 41 (2 + 4 * x1.toNatClampNeg)).bind fun r6 => (mX3_addressesTo r6 41 x2).bind fun r7 => some (r7, r6)))
set_option maxHeartbeats 4000000 in
set_option maxRecDepth 100000 in
theorem c_X7_share (l : Launch) (D : va_G) (cy : gCy) (ad : Nat → Nat) (M : gMem) (x1 : Int32) (x2 : Int32) (r0 : (Int64 × gMem)) (hm : mX7_share M x1 x2 = some r0) : Met l yX7_share wsX7_share (gR 5 109) (va_Pc [.ref (ad 0), .int x1, .int x2] (gP shC D cy ad M)) (gQl shC D cy ad r0.1 r0.2) 0 0 (gA shC ad) := by
  refine gEnter (cc := cX7_share) (maxL := 3) (ret := (some .long)) (by decide) rfl (Nat.le_of_ble_eq_true rfl) ?_
  intro p e s m below meth c ls S hr hlk C hl
  have S : CallFix p m c cX7_share 3 s _ wsX7_share RX7 := S
  have hl : lv_has ls 3 [(0, .ref (ad 0)), (1, .int x1), (2, .int x2)] := hl
  rw [mX7_share] at hm
  refine lv_iload_n S.1 S.2.1 dX7_share_0 rfl (lv_at hl 1 rfl) ?_
  obtain ⟨r1, hcr1, hm⟩ := bd_ok hm
  refine gC_i C (gRS (As := [.int x1]) (rest := []) 1 S C (c_X7_isBook l D cy ad M x1 r1 hcr1) gX7_share_X7_isBook rfl (by decide +kernel) (by decide) rfl hl.1 rfl (Nat.le_of_ble_eq_true rfl) dX7_share_1) (fun H locs C => ?_)
  refine lv_if_eq (tgt := 14) S.1 S.2.1 dX7_share_4 (by decide) (fun c2 => ?_) (fun c2 => ?_)
  · rw [if_pos c2] at hm
    refine lv_ldc2 (v := (-1 : Int64)) S.1 S.2.1 S.2.2.2.1 (S.2.2.2.2 _ kcX7_share_101) dX7_share_14 ?_
    exact gRetl S hr hlk C (pr1 hm) (pr2 hm) dX7_share_17
  · rw [if_neg c2] at hm
    refine lv_iload_n S.1 S.2.1 dX7_share_7 rfl (lv_at hl 2 rfl) ?_
    obtain ⟨r3, hcr3, hm⟩ := bd_ok hm
    refine gC_i C (gRS (As := [.int x2]) (rest := []) 1 S C (c_X7_isGoal l D cy ad M x2 r3 hcr3) gX7_share_X7_isGoal rfl (by decide +kernel) (by decide) rfl hl.1 rfl (Nat.le_of_ble_eq_true rfl) dX7_share_8) (fun H locs C => ?_)
    refine lv_if_ne (tgt := 18) S.1 S.2.1 dX7_share_11 (by decide) (fun c4 => ?_) (fun c4 => ?_)
    · rw [if_neg c4] at hm
      refine lv_aload_n S.1 S.2.1 dX7_share_18 rfl (lv_at hl 0 rfl) ?_
      refine g_get (k := 0) (ci := 6) (f := 4) (v := .ref (ad 41))  S C kiX7_share_X7 kfX7_share_35 rfl (by decide) shC_0 rfl rfl dX7_share_19 ?_
      refine lv_aload_n S.1 S.2.1 dX7_share_22 rfl (lv_at hl 0 rfl) ?_
      refine g_get (k := 0) (ci := 6) (f := 0) (v := .ref (ad 1))  S C kiX7_share_X7 kfX7_share_11 rfl (by decide) shC_0 rfl rfl dX7_share_23 ?_
      refine lv_iload_n S.1 S.2.1 dX7_share_26 rfl (lv_at hl 1 rfl) ?_
      obtain ⟨h5, hm⟩ := ck_ok hm
      refine g_aald S C (k := 1) shC_1 h5 dX7_share_27 ?_
      obtain ⟨r6, hcr6, hm⟩ := bd_ok hm
      refine gC_v C (gRV (k := 41) (ci := 3) (r := (RX3, TX3, 6)) (As := [.ref (ad (2 + 4 * x1.toNatClampNeg))]) (rest := []) 1 S C (c_X3_measure l D cy ad M 41 isS_41 (2 + 4 * x1.toNatClampNeg) (isL_book h5) r6 hcr6) gX7_share_X3_measure rfl (by decide +kernel) (by decide) isS_41.1 rfl rfl rfl hl.1 rfl (Nat.le_of_ble_eq_true rfl) dX7_share_28) (fun H locs C => ?_)
      refine lv_aload_n S.1 S.2.1 dX7_share_31 rfl (lv_at hl 0 rfl) ?_
      refine g_get (k := 0) (ci := 6) (f := 4) (v := .ref (ad 41))  S C kiX7_share_X7 kfX7_share_35 rfl (by decide) shC_0 rfl rfl dX7_share_32 ?_
      refine lv_iload_n S.1 S.2.1 dX7_share_35 rfl (lv_at hl 2 rfl) ?_
      obtain ⟨r7, hcr7, hm⟩ := bd_ok hm
      refine gC_l C (gRV (k := 41) (ci := 3) (r := (RX3, TX3, 6)) (As := [.int x2]) (rest := []) 1 S C (c_X3_addressesTo l D cy ad r6 41 isS_41 x2 r7 hcr7) gX7_share_X3_addressesTo rfl (by decide +kernel) (by decide) isS_41.1 rfl rfl rfl hl.1 rfl (Nat.le_of_ble_eq_true rfl) dX7_share_36) (fun H locs C => ?_)
      exact gRetl S hr hlk C (pr1 hm) (pr2 hm) dX7_share_39
    · rw [if_pos c4] at hm
      refine lv_ldc2 (v := (-1 : Int64)) S.1 S.2.1 S.2.2.2.1 (S.2.2.2.2 _ kcX7_share_101) dX7_share_14 ?_
      exact gRetl S hr hlk C (pr1 hm) (pr2 hm) dX7_share_17
def mX7_same (M : gMem) (x1 : Int32) (x2 : Int32) : Option (Int32 × gMem) := (mX7_isBook x1).bind fun r1 => if r1 = 0 then (some ((-1 : Int32), M)) else ((mX7_isBook x2).bind fun r3 => if r3 = 0 then (some ((-1 : Int32), M)) else ((mX7_measureDifference M x1 x2).bind fun r5 => if (r5.2 49 1) = (0 : Int64) then (some ((1 : Int32), r5)) else (some ((0 : Int32), r5))))
set_option maxHeartbeats 4000000 in
set_option maxRecDepth 100000 in
theorem c_X7_same (l : Launch) (D : va_G) (cy : gCy) (ad : Nat → Nat) (M : gMem) (x1 : Int32) (x2 : Int32) (r0 : (Int32 × gMem)) (hm : mX7_same M x1 x2 = some r0) : Met l yX7_same wsX7_same (gR 6 131) (va_Pc [.ref (ad 0), .int x1, .int x2] (gP shC D cy ad M)) (gQi shC D cy ad r0.1 r0.2) 0 0 (gA shC ad) := by
  refine gEnter (cc := cX7_same) (maxL := 3) (ret := (some .int)) (by decide) rfl (Nat.le_of_ble_eq_true rfl) ?_
  intro p e s m below meth c ls S hr hlk C hl
  have S : CallFix p m c cX7_same 3 s _ wsX7_same RX7 := S
  have hl : lv_has ls 3 [(0, .ref (ad 0)), (1, .int x1), (2, .int x2)] := hl
  rw [mX7_same] at hm
  refine lv_iload_n S.1 S.2.1 dX7_same_0 rfl (lv_at hl 1 rfl) ?_
  obtain ⟨r1, hcr1, hm⟩ := bd_ok hm
  refine gC_i C (gRS (As := [.int x1]) (rest := []) 1 S C (c_X7_isBook l D cy ad M x1 r1 hcr1) gX7_same_X7_isBook rfl (by decide +kernel) (by decide) rfl hl.1 rfl (Nat.le_of_ble_eq_true rfl) dX7_same_1) (fun H locs C => ?_)
  refine lv_if_eq (tgt := 14) S.1 S.2.1 dX7_same_4 (by decide) (fun c2 => ?_) (fun c2 => ?_)
  · rw [if_pos c2] at hm
    refine lv_iconst (v := (-1 : Int32)) S.1 S.2.1 dX7_same_14 (by decide) ?_
    exact gReti S hr hlk C (pr1 hm) (pr2 hm) dX7_same_15
  · rw [if_neg c2] at hm
    refine lv_iload_n S.1 S.2.1 dX7_same_7 rfl (lv_at hl 2 rfl) ?_
    obtain ⟨r3, hcr3, hm⟩ := bd_ok hm
    refine gC_i C (gRS (As := [.int x2]) (rest := []) 1 S C (c_X7_isBook l D cy ad M x2 r3 hcr3) gX7_same_X7_isBook rfl (by decide +kernel) (by decide) rfl hl.1 rfl (Nat.le_of_ble_eq_true rfl) dX7_same_8) (fun H locs C => ?_)
    refine lv_if_ne (tgt := 16) S.1 S.2.1 dX7_same_11 (by decide) (fun c4 => ?_) (fun c4 => ?_)
    · rw [if_neg c4] at hm
      refine lv_aload_n S.1 S.2.1 dX7_same_16 rfl (lv_at hl 0 rfl) ?_
      refine lv_iload_n S.1 S.2.1 dX7_same_17 rfl (lv_at hl 1 rfl) ?_
      refine lv_iload_n S.1 S.2.1 dX7_same_18 rfl (lv_at hl 2 rfl) ?_
      obtain ⟨r5, hcr5, hm⟩ := bd_ok hm
      refine gC_v C (gRV (k := 0) (ci := 6) (r := (RX7, TX7, 9)) (As := [.int x1, .int x2]) (rest := []) 2 S C (c_X7_measureDifference l D cy ad M x1 x2 r5 hcr5) gX7_same_X7_measureDifference rfl (by decide +kernel) (by decide) shC_0 rfl rfl rfl hl.1 rfl (Nat.le_of_ble_eq_true rfl) dX7_same_19) (fun H locs C => ?_)
      refine lv_aload_n S.1 S.2.1 dX7_same_22 rfl (lv_at hl 0 rfl) ?_
      refine g_get (k := 0) (ci := 6) (f := 6) (v := .ref (ad 49))  S C kiX7_same_X7 kfX7_same_45 rfl (by decide) shC_0 rfl rfl dX7_same_23 ?_
      refine g_getN (k := 49) (ci := 1) (f := 1) (v := .long (r5.2 49 1)) (host := "PrefixLeader") S C kiX7_same_X1 (by decide +kernel) rfl (by decide) shC_49 rfl rfl dX7_same_26 ?_
      refine lv_lconst (v := (0 : Int64)) S.1 S.2.1 dX7_same_29 (by decide) ?_
      refine W.lcmp S.1 S.2.1 dX7_same_30 ?_
      refine lv_if_ne (tgt := 38) S.1 S.2.1 dX7_same_31 (by decide) (fun c6 => ?_) (fun c6 => ?_)
      · rw [if_neg (fun q => c6 (cmp_eq.mpr q))] at hm
        refine lv_iconst (v := (0 : Int32)) S.1 S.2.1 dX7_same_38 (by decide) ?_
        exact gReti S hr hlk C (pr1 hm) (pr2 hm) dX7_same_39
      · rw [if_pos (cmp_eq.mp c6)] at hm
        refine lv_iconst (v := (1 : Int32)) S.1 S.2.1 dX7_same_34 (by decide) ?_
        refine lv_goto (tgt := 39) S.1 S.2.1 dX7_same_35 (by decide) ?_
        exact gReti S hr hlk C (pr1 hm) (pr2 hm) dX7_same_39
    · rw [if_pos c4] at hm
      refine lv_iconst (v := (-1 : Int32)) S.1 S.2.1 dX7_same_14 (by decide) ?_
      exact gReti S hr hlk C (pr1 hm) (pr2 hm) dX7_same_15
def mX7_differ (M : gMem) (x1 : Int32) (x2 : Int32) (x3 : Int32) : Option (Int64 × gMem) := (mX7_isBook x1).bind fun r1 => if r1 = 0 then (some ((-1 : Int64), M)) else ((mX7_isBook x2).bind fun r3 => if r3 = 0 then (some ((-1 : Int64), M)) else (if x3 < 0 then (some ((-1 : Int64), M)) else (if x3 ≤ (1 : Int32) then ((mX7_measureDifference M x1 x2).bind fun r7 => if x3 = 0 then (some ((r7.2 49 0), r7)) else (some ((r7.2 49 1), r7))) else (some ((-1 : Int64), M)))))
set_option maxHeartbeats 4000000 in
set_option maxRecDepth 100000 in
theorem c_X7_differ (l : Launch) (D : va_G) (cy : gCy) (ad : Nat → Nat) (M : gMem) (x1 : Int32) (x2 : Int32) (x3 : Int32) (r0 : (Int64 × gMem)) (hm : mX7_differ M x1 x2 x3 = some r0) : Met l yX7_differ wsX7_differ (gR 6 131) (va_Pc [.ref (ad 0), .int x1, .int x2, .int x3] (gP shC D cy ad M)) (gQl shC D cy ad r0.1 r0.2) 0 0 (gA shC ad) := by
  refine gEnter (cc := cX7_differ) (maxL := 4) (ret := (some .long)) (by decide) rfl (Nat.le_of_ble_eq_true rfl) ?_
  intro p e s m below meth c ls S hr hlk C hl
  have S : CallFix p m c cX7_differ 4 s _ wsX7_differ RX7 := S
  have hl : lv_has ls 4 [(0, .ref (ad 0)), (1, .int x1), (2, .int x2), (3, .int x3)] := hl
  rw [mX7_differ] at hm
  refine lv_iload_n S.1 S.2.1 dX7_differ_0 rfl (lv_at hl 1 rfl) ?_
  obtain ⟨r1, hcr1, hm⟩ := bd_ok hm
  refine gC_i C (gRS (As := [.int x1]) (rest := []) 1 S C (c_X7_isBook l D cy ad M x1 r1 hcr1) gX7_differ_X7_isBook rfl (by decide +kernel) (by decide) rfl hl.1 rfl (Nat.le_of_ble_eq_true rfl) dX7_differ_1) (fun H locs C => ?_)
  refine lv_if_eq (tgt := 23) S.1 S.2.1 dX7_differ_4 (by decide) (fun c2 => ?_) (fun c2 => ?_)
  · rw [if_pos c2] at hm
    refine lv_ldc2 (v := (-1 : Int64)) S.1 S.2.1 S.2.2.2.1 (S.2.2.2.2 _ kcX7_differ_101) dX7_differ_23 ?_
    exact gRetl S hr hlk C (pr1 hm) (pr2 hm) dX7_differ_26
  · rw [if_neg c2] at hm
    refine lv_iload_n S.1 S.2.1 dX7_differ_7 rfl (lv_at hl 2 rfl) ?_
    obtain ⟨r3, hcr3, hm⟩ := bd_ok hm
    refine gC_i C (gRS (As := [.int x2]) (rest := []) 1 S C (c_X7_isBook l D cy ad M x2 r3 hcr3) gX7_differ_X7_isBook rfl (by decide +kernel) (by decide) rfl hl.1 rfl (Nat.le_of_ble_eq_true rfl) dX7_differ_8) (fun H locs C => ?_)
    refine lv_if_eq (tgt := 23) S.1 S.2.1 dX7_differ_11 (by decide) (fun c4 => ?_) (fun c4 => ?_)
    · rw [if_pos c4] at hm
      refine lv_ldc2 (v := (-1 : Int64)) S.1 S.2.1 S.2.2.2.1 (S.2.2.2.2 _ kcX7_differ_101) dX7_differ_23 ?_
      exact gRetl S hr hlk C (pr1 hm) (pr2 hm) dX7_differ_26
    · rw [if_neg c4] at hm
      refine lv_iload_n S.1 S.2.1 dX7_differ_14 rfl (lv_at hl 3 rfl) ?_
      refine lv_if_lt (tgt := 23) S.1 S.2.1 dX7_differ_15 (by decide) (fun c5 => ?_) (fun c5 => ?_)
      · rw [if_pos c5] at hm
        refine lv_ldc2 (v := (-1 : Int64)) S.1 S.2.1 S.2.2.2.1 (S.2.2.2.2 _ kcX7_differ_101) dX7_differ_23 ?_
        exact gRetl S hr hlk C (pr1 hm) (pr2 hm) dX7_differ_26
      · rw [if_neg c5] at hm
        refine lv_iload_n S.1 S.2.1 dX7_differ_18 rfl (lv_at hl 3 rfl) ?_
        refine lv_iconst (v := (1 : Int32)) S.1 S.2.1 dX7_differ_19 (by decide) ?_
        refine lv_icmp_le (tgt := 27) S.1 S.2.1 dX7_differ_20 (by decide) (fun c6 => ?_) (fun c6 => ?_)
        · rw [if_pos c6] at hm
          refine lv_aload_n S.1 S.2.1 dX7_differ_27 rfl (lv_at hl 0 rfl) ?_
          refine lv_iload_n S.1 S.2.1 dX7_differ_28 rfl (lv_at hl 1 rfl) ?_
          refine lv_iload_n S.1 S.2.1 dX7_differ_29 rfl (lv_at hl 2 rfl) ?_
          obtain ⟨r7, hcr7, hm⟩ := bd_ok hm
          refine gC_v C (gRV (k := 0) (ci := 6) (r := (RX7, TX7, 9)) (As := [.int x1, .int x2]) (rest := []) 2 S C (c_X7_measureDifference l D cy ad M x1 x2 r7 hcr7) gX7_differ_X7_measureDifference rfl (by decide +kernel) (by decide) shC_0 rfl rfl rfl hl.1 rfl (Nat.le_of_ble_eq_true rfl) dX7_differ_30) (fun H locs C => ?_)
          refine lv_iload_n S.1 S.2.1 dX7_differ_33 rfl (lv_at hl 3 rfl) ?_
          refine lv_if_ne (tgt := 47) S.1 S.2.1 dX7_differ_34 (by decide) (fun c8 => ?_) (fun c8 => ?_)
          · rw [if_neg c8] at hm
            refine lv_aload_n S.1 S.2.1 dX7_differ_47 rfl (lv_at hl 0 rfl) ?_
            refine g_get (k := 0) (ci := 6) (f := 6) (v := .ref (ad 49))  S C kiX7_differ_X7 kfX7_differ_45 rfl (by decide) shC_0 rfl rfl dX7_differ_48 ?_
            refine g_getN (k := 49) (ci := 1) (f := 1) (v := .long (r7.2 49 1)) (host := "PrefixLeader") S C kiX7_differ_X1 (by decide +kernel) rfl (by decide) shC_49 rfl rfl dX7_differ_51 ?_
            exact gRetl S hr hlk C (pr1 hm) (pr2 hm) dX7_differ_54
          · rw [if_pos c8] at hm
            refine lv_aload_n S.1 S.2.1 dX7_differ_37 rfl (lv_at hl 0 rfl) ?_
            refine g_get (k := 0) (ci := 6) (f := 6) (v := .ref (ad 49))  S C kiX7_differ_X7 kfX7_differ_45 rfl (by decide) shC_0 rfl rfl dX7_differ_38 ?_
            refine g_getN (k := 49) (ci := 1) (f := 0) (v := .long (r7.2 49 0)) (host := "PrefixLeader") S C kiX7_differ_X1 (by decide +kernel) rfl (by decide) shC_49 rfl rfl dX7_differ_41 ?_
            refine lv_goto (tgt := 54) S.1 S.2.1 dX7_differ_44 (by decide) ?_
            exact gRetl S hr hlk C (pr1 hm) (pr2 hm) dX7_differ_54
        · rw [if_neg c6] at hm
          refine lv_ldc2 (v := (-1 : Int64)) S.1 S.2.1 S.2.2.2.1 (S.2.2.2.2 _ kcX7_differ_101) dX7_differ_23 ?_
          exact gRetl S hr hlk C (pr1 hm) (pr2 hm) dX7_differ_26
def mX7_combine (M : gMem) (x1 : Int32) (x2 : Int32) (x3 : Int32) (x4 : Int32) : Option (Int32 × gMem) := if x1 < 0 then (some ((-1 : Int32), M)) else (if (2 : Int32) < x1 then (some ((-1 : Int32), M)) else ((mX7_isBook x2).bind fun r3 => if r3 = 0 then (some ((-1 : Int32), M)) else ((mX7_isBook x3).bind fun r5 => if r5 = 0 then (some ((-1 : Int32), M)) else ((mX7_isBook x4).bind fun r7 => if r7 = 0 then (some ((-1 : Int32), M)) else (ck (inb x2 6) <| ck (inb x3 6) <| (mX2_merge M 26 (2 + 4 * x2.toNatClampNeg) (2 + 4 * x3.toNatClampNeg) x1).bind fun r11 => ck (inb x4 6) <| (mX7_becomeLeast r11 26 (2 + 4 * x4.toNatClampNeg)).bind fun r13 => some (r13.1, r13.2))))))
set_option maxHeartbeats 4000000 in
set_option maxRecDepth 100000 in
theorem c_X7_combine (l : Launch) (D : va_G) (cy : gCy) (ad : Nat → Nat) (M : gMem) (x1 : Int32) (x2 : Int32) (x3 : Int32) (x4 : Int32) (r0 : (Int32 × gMem)) (hm : mX7_combine M x1 x2 x3 x4 = some r0) : Met l yX7_combine wsX7_combine (gR 163 4268) (va_Pc [.ref (ad 0), .int x1, .int x2, .int x3, .int x4] (gP shC D cy ad M)) (gQi shC D cy ad r0.1 r0.2) 0 0 (gA shC ad) := by
  refine gEnter (cc := cX7_combine) (maxL := 5) (ret := (some .int)) (by decide) rfl (Nat.le_of_ble_eq_true rfl) ?_
  intro p e s m below meth c ls S hr hlk C hl
  have S : CallFix p m c cX7_combine 5 s _ wsX7_combine RX7 := S
  have hl : lv_has ls 5 [(0, .ref (ad 0)), (1, .int x1), (2, .int x2), (3, .int x3), (4, .int x4)] := hl
  rw [mX7_combine] at hm
  refine lv_iload_n S.1 S.2.1 dX7_combine_0 rfl (lv_at hl 1 rfl) ?_
  refine lv_if_lt (tgt := 31) S.1 S.2.1 dX7_combine_1 (by decide) (fun c1 => ?_) (fun c1 => ?_)
  · rw [if_pos c1] at hm
    refine lv_iconst (v := (-1 : Int32)) S.1 S.2.1 dX7_combine_31 (by decide) ?_
    exact gReti S hr hlk C (pr1 hm) (pr2 hm) dX7_combine_32
  · rw [if_neg c1] at hm
    refine lv_iload_n S.1 S.2.1 dX7_combine_4 rfl (lv_at hl 1 rfl) ?_
    refine lv_iconst (v := (2 : Int32)) S.1 S.2.1 dX7_combine_5 (by decide) ?_
    refine lv_icmp_gt (tgt := 31) S.1 S.2.1 dX7_combine_6 (by decide) (fun c2 => ?_) (fun c2 => ?_)
    · rw [if_pos c2] at hm
      refine lv_iconst (v := (-1 : Int32)) S.1 S.2.1 dX7_combine_31 (by decide) ?_
      exact gReti S hr hlk C (pr1 hm) (pr2 hm) dX7_combine_32
    · rw [if_neg c2] at hm
      refine lv_iload_n S.1 S.2.1 dX7_combine_9 rfl (lv_at hl 2 rfl) ?_
      obtain ⟨r3, hcr3, hm⟩ := bd_ok hm
      refine gC_i C (gRS (As := [.int x2]) (rest := []) 1 S C (c_X7_isBook l D cy ad M x2 r3 hcr3) gX7_combine_X7_isBook rfl (by decide +kernel) (by decide) rfl hl.1 rfl (Nat.le_of_ble_eq_true rfl) dX7_combine_10) (fun H locs C => ?_)
      refine lv_if_eq (tgt := 31) S.1 S.2.1 dX7_combine_13 (by decide) (fun c4 => ?_) (fun c4 => ?_)
      · rw [if_pos c4] at hm
        refine lv_iconst (v := (-1 : Int32)) S.1 S.2.1 dX7_combine_31 (by decide) ?_
        exact gReti S hr hlk C (pr1 hm) (pr2 hm) dX7_combine_32
      · rw [if_neg c4] at hm
        refine lv_iload_n S.1 S.2.1 dX7_combine_16 rfl (lv_at hl 3 rfl) ?_
        obtain ⟨r5, hcr5, hm⟩ := bd_ok hm
        refine gC_i C (gRS (As := [.int x3]) (rest := []) 1 S C (c_X7_isBook l D cy ad M x3 r5 hcr5) gX7_combine_X7_isBook rfl (by decide +kernel) (by decide) rfl hl.1 rfl (Nat.le_of_ble_eq_true rfl) dX7_combine_17) (fun H locs C => ?_)
        refine lv_if_eq (tgt := 31) S.1 S.2.1 dX7_combine_20 (by decide) (fun c6 => ?_) (fun c6 => ?_)
        · rw [if_pos c6] at hm
          refine lv_iconst (v := (-1 : Int32)) S.1 S.2.1 dX7_combine_31 (by decide) ?_
          exact gReti S hr hlk C (pr1 hm) (pr2 hm) dX7_combine_32
        · rw [if_neg c6] at hm
          refine lv_iload S.1 S.2.1 dX7_combine_23 (lv_at hl 4 rfl) ?_
          obtain ⟨r7, hcr7, hm⟩ := bd_ok hm
          refine gC_i C (gRS (As := [.int x4]) (rest := []) 1 S C (c_X7_isBook l D cy ad M x4 r7 hcr7) gX7_combine_X7_isBook rfl (by decide +kernel) (by decide) rfl hl.1 rfl (Nat.le_of_ble_eq_true rfl) dX7_combine_25) (fun H locs C => ?_)
          refine lv_if_ne (tgt := 33) S.1 S.2.1 dX7_combine_28 (by decide) (fun c8 => ?_) (fun c8 => ?_)
          · rw [if_neg c8] at hm
            refine lv_aload_n S.1 S.2.1 dX7_combine_33 rfl (lv_at hl 0 rfl) ?_
            refine g_get (k := 0) (ci := 6) (f := 1) (v := .ref (ad 26))  S C kiX7_combine_X7 kfX7_combine_18 rfl (by decide) shC_0 rfl rfl dX7_combine_34 ?_
            refine lv_aload_n S.1 S.2.1 dX7_combine_37 rfl (lv_at hl 0 rfl) ?_
            refine g_get (k := 0) (ci := 6) (f := 0) (v := .ref (ad 1))  S C kiX7_combine_X7 kfX7_combine_11 rfl (by decide) shC_0 rfl rfl dX7_combine_38 ?_
            refine lv_iload_n S.1 S.2.1 dX7_combine_41 rfl (lv_at hl 2 rfl) ?_
            obtain ⟨h9, hm⟩ := ck_ok hm
            refine g_aald S C (k := 1) shC_1 h9 dX7_combine_42 ?_
            refine lv_aload_n S.1 S.2.1 dX7_combine_43 rfl (lv_at hl 0 rfl) ?_
            refine g_get (k := 0) (ci := 6) (f := 0) (v := .ref (ad 1))  S C kiX7_combine_X7 kfX7_combine_11 rfl (by decide) shC_0 rfl rfl dX7_combine_44 ?_
            refine lv_iload_n S.1 S.2.1 dX7_combine_47 rfl (lv_at hl 3 rfl) ?_
            obtain ⟨h10, hm⟩ := ck_ok hm
            refine g_aald S C (k := 1) shC_1 h10 dX7_combine_48 ?_
            refine lv_iload_n S.1 S.2.1 dX7_combine_49 rfl (lv_at hl 1 rfl) ?_
            obtain ⟨r11, hcr11, hm⟩ := bd_ok hm
            refine gC_v C (gRV (k := 26) (ci := 2) (r := (RX2, TX2, 5)) (As := [.ref (ad (2 + 4 * x2.toNatClampNeg)), .ref (ad (2 + 4 * x3.toNatClampNeg)), .int x1]) (rest := []) 3 S C (c_X2_merge l D cy ad M 26 isL_26 (2 + 4 * x2.toNatClampNeg) (isL_book h9) (2 + 4 * x3.toNatClampNeg) (isL_book h10) x1 r11 hcr11) gX7_combine_X2_merge rfl (by decide +kernel) (by decide) isL_26.1 rfl rfl rfl hl.1 rfl (Nat.le_of_ble_eq_true rfl) dX7_combine_50) (fun H locs C => ?_)
            refine lv_aload_n S.1 S.2.1 dX7_combine_53 rfl (lv_at hl 0 rfl) ?_
            refine lv_aload_n S.1 S.2.1 dX7_combine_54 rfl (lv_at hl 0 rfl) ?_
            refine g_get (k := 0) (ci := 6) (f := 1) (v := .ref (ad 26))  S C kiX7_combine_X7 kfX7_combine_18 rfl (by decide) shC_0 rfl rfl dX7_combine_55 ?_
            refine lv_aload_n S.1 S.2.1 dX7_combine_58 rfl (lv_at hl 0 rfl) ?_
            refine g_get (k := 0) (ci := 6) (f := 0) (v := .ref (ad 1))  S C kiX7_combine_X7 kfX7_combine_11 rfl (by decide) shC_0 rfl rfl dX7_combine_59 ?_
            refine lv_iload S.1 S.2.1 dX7_combine_62 (lv_at hl 4 rfl) ?_
            obtain ⟨h12, hm⟩ := ck_ok hm
            refine g_aald S C (k := 1) shC_1 h12 dX7_combine_64 ?_
            obtain ⟨r13, hcr13, hm⟩ := bd_ok hm
            refine gC_i C (gRV (k := 0) (ci := 6) (r := (RX7, TX7, 9)) (As := [.ref (ad 26), .ref (ad (2 + 4 * x4.toNatClampNeg))]) (rest := []) 2 S C (c_X7_becomeLeast l D cy ad r11 26 isL_26 (2 + 4 * x4.toNatClampNeg) (isL_book h12) r13 hcr13) gX7_combine_X7_becomeLeast rfl (by decide +kernel) (by decide) shC_0 rfl rfl rfl hl.1 rfl (Nat.le_of_ble_eq_true rfl) dX7_combine_65) (fun H locs C => ?_)
            exact gReti S hr hlk C (pr1 hm) (pr2 hm) dX7_combine_68
          · rw [if_pos c8] at hm
            refine lv_iconst (v := (-1 : Int32)) S.1 S.2.1 dX7_combine_31 (by decide) ?_
            exact gReti S hr hlk C (pr1 hm) (pr2 hm) dX7_combine_32
def mX7_cover (M : gMem) (x1 : Int32) (x2 : Int32) : Option (Int32 × gMem) := (mX7_wide x2).bind fun r1 => (mX7_wide x1).bind fun r2 => if r2 ≤ r1 then ((mX7_wide x1).bind fun r4 => (mX7_wide x2).bind fun r5 => (mX0_make M r4 r5).bind fun r6 => some ((r6.1 50 2), r6)) else (some ((-1 : Int32), M))
set_option maxHeartbeats 4000000 in
set_option maxRecDepth 100000 in
theorem c_X7_cover (l : Launch) (D : va_G) (cy : gCy) (ad : Nat → Nat) (M : gMem) (x1 : Int32) (x2 : Int32) (r0 : (Int32 × gMem)) (hm : mX7_cover M x1 x2 = some r0) : Met l yX7_cover wsX7_cover (gR 3 73) (va_Pc [.ref (ad 0), .int x1, .int x2] (gP shC D cy ad M)) (gQi shC D cy ad r0.1 r0.2) 0 0 (gA shC ad) := by
  refine gEnter (cc := cX7_cover) (maxL := 3) (ret := (some .int)) (by decide) rfl (Nat.le_of_ble_eq_true rfl) ?_
  intro p e s m below meth c ls S hr hlk C hl
  have S : CallFix p m c cX7_cover 3 s _ wsX7_cover RX7 := S
  have hl : lv_has ls 3 [(0, .ref (ad 0)), (1, .int x1), (2, .int x2)] := hl
  rw [mX7_cover] at hm
  refine lv_iload_n S.1 S.2.1 dX7_cover_0 rfl (lv_at hl 2 rfl) ?_
  obtain ⟨r1, hcr1, hm⟩ := bd_ok hm
  refine gC_l C (gRS (As := [.int x2]) (rest := []) 1 S C (c_X7_wide l D cy ad M x2 r1 hcr1) gX7_cover_X7_wide rfl (by decide +kernel) (by decide) rfl hl.1 rfl (Nat.le_of_ble_eq_true rfl) dX7_cover_1) (fun H locs C => ?_)
  refine lv_iload_n S.1 S.2.1 dX7_cover_4 rfl (lv_at hl 1 rfl) ?_
  obtain ⟨r2, hcr2, hm⟩ := bd_ok hm
  refine gC_l C (gRS (As := [.int x1]) (rest := [.long r1]) 1 S C (c_X7_wide l D cy ad M x1 r2 hcr2) gX7_cover_X7_wide rfl (by decide +kernel) (by decide) rfl hl.1 rfl (Nat.le_of_ble_eq_true rfl) dX7_cover_5) (fun H locs C => ?_)
  refine W.lcmp S.1 S.2.1 dX7_cover_8 ?_
  refine lv_if_ge (tgt := 14) S.1 S.2.1 dX7_cover_9 (by decide) (fun c3 => ?_) (fun c3 => ?_)
  · rw [if_pos (cmp_ge.mp c3)] at hm
    refine lv_aload_n S.1 S.2.1 dX7_cover_14 rfl (lv_at hl 0 rfl) ?_
    refine g_get (k := 0) (ci := 6) (f := 7) (v := .ref (ad 50))  S C kiX7_cover_X7 kfX7_cover_52 rfl (by decide) shC_0 rfl rfl dX7_cover_15 ?_
    refine lv_iload_n S.1 S.2.1 dX7_cover_18 rfl (lv_at hl 1 rfl) ?_
    obtain ⟨r4, hcr4, hm⟩ := bd_ok hm
    refine gC_l C (gRS (As := [.int x1]) (rest := [.ref (ad 50)]) 1 S C (c_X7_wide l D cy ad M x1 r4 hcr4) gX7_cover_X7_wide rfl (by decide +kernel) (by decide) rfl hl.1 rfl (Nat.le_of_ble_eq_true rfl) dX7_cover_19) (fun H locs C => ?_)
    refine lv_iload_n S.1 S.2.1 dX7_cover_22 rfl (lv_at hl 2 rfl) ?_
    obtain ⟨r5, hcr5, hm⟩ := bd_ok hm
    refine gC_l C (gRS (As := [.int x2]) (rest := [.long r4, .ref (ad 50)]) 1 S C (c_X7_wide l D cy ad M x2 r5 hcr5) gX7_cover_X7_wide rfl (by decide +kernel) (by decide) rfl hl.1 rfl (Nat.le_of_ble_eq_true rfl) dX7_cover_23) (fun H locs C => ?_)
    obtain ⟨r6, hcr6, hm⟩ := bd_ok hm
    refine gC_v C (gRV (k := 50) (ci := 0) (r := (RX0, TX0, 3)) (As := [.long r4, .long r5]) (rest := []) 2 S C (c_X0_make l D cy ad M r4 r5 r6 hcr6) gX7_cover_X0_make rfl (by decide +kernel) (by decide) shC_50 rfl rfl rfl hl.1 rfl (Nat.le_of_ble_eq_true rfl) dX7_cover_26) (fun H locs C => ?_)
    refine lv_aload_n S.1 S.2.1 dX7_cover_29 rfl (lv_at hl 0 rfl) ?_
    refine g_get (k := 0) (ci := 6) (f := 7) (v := .ref (ad 50))  S C kiX7_cover_X7 kfX7_cover_52 rfl (by decide) shC_0 rfl rfl dX7_cover_30 ?_
    refine g_getN (k := 50) (ci := 0) (f := 2) (v := .int (r6.1 50 2)) (host := "PrefixLeader") S C kiX7_cover_X0 (by decide +kernel) rfl (by decide) shC_50 rfl rfl dX7_cover_33 ?_
    exact gReti S hr hlk C (pr1 hm) (pr2 hm) dX7_cover_36
  · rw [if_neg (fun q => c3 (cmp_ge.mpr q))] at hm
    refine lv_iconst (v := (-1 : Int32)) S.1 S.2.1 dX7_cover_12 (by decide) ?_
    exact gReti S hr hlk C (pr1 hm) (pr2 hm) dX7_cover_13
def mX7_piece (M : gMem) (x1 : Int32) (x2 : Int32) : Option Int64 := (mX0_tell M x1 x2).bind fun r1 => some r1
set_option maxHeartbeats 4000000 in
set_option maxRecDepth 100000 in
theorem c_X7_piece (l : Launch) (D : va_G) (cy : gCy) (ad : Nat → Nat) (M : gMem) (x1 : Int32) (x2 : Int32) (r0 : Int64) (hm : mX7_piece M x1 x2 = some r0) : Met l yX7_piece wsX7_piece (gR 1 22) (va_Pc [.ref (ad 0), .int x1, .int x2] (gP shC D cy ad M)) (gQl shC D cy ad r0 M) 0 0 (gA shC ad) := by
  refine gEnter (cc := cX7_piece) (maxL := 3) (ret := (some .long)) (by decide) rfl (Nat.le_of_ble_eq_true rfl) ?_
  intro p e s m below meth c ls S hr hlk C hl
  have S : CallFix p m c cX7_piece 3 s _ wsX7_piece RX7 := S
  have hl : lv_has ls 3 [(0, .ref (ad 0)), (1, .int x1), (2, .int x2)] := hl
  rw [mX7_piece] at hm
  refine lv_aload_n S.1 S.2.1 dX7_piece_0 rfl (lv_at hl 0 rfl) ?_
  refine g_get (k := 0) (ci := 6) (f := 7) (v := .ref (ad 50))  S C kiX7_piece_X7 kfX7_piece_52 rfl (by decide) shC_0 rfl rfl dX7_piece_1 ?_
  refine lv_iload_n S.1 S.2.1 dX7_piece_4 rfl (lv_at hl 1 rfl) ?_
  refine lv_iload_n S.1 S.2.1 dX7_piece_5 rfl (lv_at hl 2 rfl) ?_
  obtain ⟨r1, hcr1, hm⟩ := bd_ok hm
  refine gC_l C (gRV (k := 50) (ci := 0) (r := (RX0, TX0, 3)) (As := [.int x1, .int x2]) (rest := []) 2 S C (c_X0_tell l D cy ad M x1 x2 r1 hcr1) gX7_piece_X0_tell rfl (by decide +kernel) (by decide) shC_50 rfl rfl rfl hl.1 rfl (Nat.le_of_ble_eq_true rfl) dX7_piece_6) (fun H locs C => ?_)
  exact gRetl S hr hlk C (Option.some.inj hm) rfl dX7_piece_9
def mX7_way (M : gMem) (x1 : Int32) (x2 : Int32) : Option (Int32 × gMem) := (mX7_isBook x1).bind fun r1 => if r1 = 0 then (some ((-1 : Int32), M)) else ((mX7_isBook x2).bind fun r3 => if r3 = 0 then (some ((-1 : Int32), M)) else (ck (inb x1 6) <| ck (inb x2 6) <| (mX6_lay M (2 + 4 * x1.toNatClampNeg) (2 + 4 * x2.toNatClampNeg)).bind fun r7 => some ((r7.1 53 4), r7)))
set_option maxHeartbeats 4000000 in
set_option maxRecDepth 100000 in
theorem c_X7_way (l : Launch) (D : va_G) (cy : gCy) (ad : Nat → Nat) (M : gMem) (x1 : Int32) (x2 : Int32) (r0 : (Int32 × gMem)) (hm : mX7_way M x1 x2 = some r0) : Met l yX7_way wsX7_way (gR 6 137) (va_Pc [.ref (ad 0), .int x1, .int x2] (gP shC D cy ad M)) (gQi shC D cy ad r0.1 r0.2) 0 0 (gA shC ad) := by
  refine gEnter (cc := cX7_way) (maxL := 3) (ret := (some .int)) (by decide) rfl (Nat.le_of_ble_eq_true rfl) ?_
  intro p e s m below meth c ls S hr hlk C hl
  have S : CallFix p m c cX7_way 3 s _ wsX7_way RX7 := S
  have hl : lv_has ls 3 [(0, .ref (ad 0)), (1, .int x1), (2, .int x2)] := hl
  rw [mX7_way] at hm
  refine lv_iload_n S.1 S.2.1 dX7_way_0 rfl (lv_at hl 1 rfl) ?_
  obtain ⟨r1, hcr1, hm⟩ := bd_ok hm
  refine gC_i C (gRS (As := [.int x1]) (rest := []) 1 S C (c_X7_isBook l D cy ad M x1 r1 hcr1) gX7_way_X7_isBook rfl (by decide +kernel) (by decide) rfl hl.1 rfl (Nat.le_of_ble_eq_true rfl) dX7_way_1) (fun H locs C => ?_)
  refine lv_if_eq (tgt := 14) S.1 S.2.1 dX7_way_4 (by decide) (fun c2 => ?_) (fun c2 => ?_)
  · rw [if_pos c2] at hm
    refine lv_iconst (v := (-1 : Int32)) S.1 S.2.1 dX7_way_14 (by decide) ?_
    exact gReti S hr hlk C (pr1 hm) (pr2 hm) dX7_way_15
  · rw [if_neg c2] at hm
    refine lv_iload_n S.1 S.2.1 dX7_way_7 rfl (lv_at hl 2 rfl) ?_
    obtain ⟨r3, hcr3, hm⟩ := bd_ok hm
    refine gC_i C (gRS (As := [.int x2]) (rest := []) 1 S C (c_X7_isBook l D cy ad M x2 r3 hcr3) gX7_way_X7_isBook rfl (by decide +kernel) (by decide) rfl hl.1 rfl (Nat.le_of_ble_eq_true rfl) dX7_way_8) (fun H locs C => ?_)
    refine lv_if_ne (tgt := 16) S.1 S.2.1 dX7_way_11 (by decide) (fun c4 => ?_) (fun c4 => ?_)
    · rw [if_neg c4] at hm
      refine lv_aload_n S.1 S.2.1 dX7_way_16 rfl (lv_at hl 0 rfl) ?_
      refine g_get (k := 0) (ci := 6) (f := 8) (v := .ref (ad 53))  S C kiX7_way_X7 kfX7_way_59 rfl (by decide) shC_0 rfl rfl dX7_way_17 ?_
      refine lv_aload_n S.1 S.2.1 dX7_way_20 rfl (lv_at hl 0 rfl) ?_
      refine g_get (k := 0) (ci := 6) (f := 0) (v := .ref (ad 1))  S C kiX7_way_X7 kfX7_way_11 rfl (by decide) shC_0 rfl rfl dX7_way_21 ?_
      refine lv_iload_n S.1 S.2.1 dX7_way_24 rfl (lv_at hl 1 rfl) ?_
      obtain ⟨h5, hm⟩ := ck_ok hm
      refine g_aald S C (k := 1) shC_1 h5 dX7_way_25 ?_
      refine lv_aload_n S.1 S.2.1 dX7_way_26 rfl (lv_at hl 0 rfl) ?_
      refine g_get (k := 0) (ci := 6) (f := 0) (v := .ref (ad 1))  S C kiX7_way_X7 kfX7_way_11 rfl (by decide) shC_0 rfl rfl dX7_way_27 ?_
      refine lv_iload_n S.1 S.2.1 dX7_way_30 rfl (lv_at hl 2 rfl) ?_
      obtain ⟨h6, hm⟩ := ck_ok hm
      refine g_aald S C (k := 1) shC_1 h6 dX7_way_31 ?_
      obtain ⟨r7, hcr7, hm⟩ := bd_ok hm
      refine gC_v C (gRV (k := 53) (ci := 5) (r := (RX6, TX6, 5)) (As := [.ref (ad (2 + 4 * x1.toNatClampNeg)), .ref (ad (2 + 4 * x2.toNatClampNeg))]) (rest := []) 2 S C (c_X6_lay l D cy ad M (2 + 4 * x1.toNatClampNeg) (isL_book h5) (2 + 4 * x2.toNatClampNeg) (isL_book h6) r7 hcr7) gX7_way_X6_lay rfl (by decide +kernel) (by decide) shC_53 rfl rfl rfl hl.1 rfl (Nat.le_of_ble_eq_true rfl) dX7_way_32) (fun H locs C => ?_)
      refine lv_aload_n S.1 S.2.1 dX7_way_35 rfl (lv_at hl 0 rfl) ?_
      refine g_get (k := 0) (ci := 6) (f := 8) (v := .ref (ad 53))  S C kiX7_way_X7 kfX7_way_59 rfl (by decide) shC_0 rfl rfl dX7_way_36 ?_
      refine g_getN (k := 53) (ci := 5) (f := 4) (v := .int (r7.1 53 4)) (host := "PrefixLeader") S C kiX7_way_X6 (by decide +kernel) rfl (by decide) shC_53 rfl rfl dX7_way_39 ?_
      exact gReti S hr hlk C (pr1 hm) (pr2 hm) dX7_way_42
    · rw [if_pos c4] at hm
      refine lv_iconst (v := (-1 : Int32)) S.1 S.2.1 dX7_way_14 (by decide) ?_
      exact gReti S hr hlk C (pr1 hm) (pr2 hm) dX7_way_15
def mX7_step (M : gMem) (x1 : Int32) (x2 : Int32) : Option Int64 := (mX6_tell M x1 x2).bind fun r1 => some r1
set_option maxHeartbeats 4000000 in
set_option maxRecDepth 100000 in
theorem c_X7_step (l : Launch) (D : va_G) (cy : gCy) (ad : Nat → Nat) (M : gMem) (x1 : Int32) (x2 : Int32) (r0 : Int64) (hm : mX7_step M x1 x2 = some r0) : Met l yX7_step wsX7_step (gR 3 66) (va_Pc [.ref (ad 0), .int x1, .int x2] (gP shC D cy ad M)) (gQl shC D cy ad r0 M) 0 0 (gA shC ad) := by
  refine gEnter (cc := cX7_step) (maxL := 3) (ret := (some .long)) (by decide) rfl (Nat.le_of_ble_eq_true rfl) ?_
  intro p e s m below meth c ls S hr hlk C hl
  have S : CallFix p m c cX7_step 3 s _ wsX7_step RX7 := S
  have hl : lv_has ls 3 [(0, .ref (ad 0)), (1, .int x1), (2, .int x2)] := hl
  rw [mX7_step] at hm
  refine lv_aload_n S.1 S.2.1 dX7_step_0 rfl (lv_at hl 0 rfl) ?_
  refine g_get (k := 0) (ci := 6) (f := 8) (v := .ref (ad 53))  S C kiX7_step_X7 kfX7_step_59 rfl (by decide) shC_0 rfl rfl dX7_step_1 ?_
  refine lv_iload_n S.1 S.2.1 dX7_step_4 rfl (lv_at hl 1 rfl) ?_
  refine lv_iload_n S.1 S.2.1 dX7_step_5 rfl (lv_at hl 2 rfl) ?_
  obtain ⟨r1, hcr1, hm⟩ := bd_ok hm
  refine gC_l C (gRV (k := 53) (ci := 5) (r := (RX6, TX6, 5)) (As := [.int x1, .int x2]) (rest := []) 2 S C (c_X6_tell l D cy ad M x1 x2 r1 hcr1) gX7_step_X6_tell rfl (by decide +kernel) (by decide) shC_53 rfl rfl rfl hl.1 rfl (Nat.le_of_ble_eq_true rfl) dX7_step_6) (fun H locs C => ?_)
  exact gRetl S hr hlk C (Option.some.inj hm) rfl dX7_step_9
def mX7_led (M : gMem) (x1 : Int32) (x2 : Int32) : Option (Int32 × gMem) := (mX6_goalBehind M x1 x2).bind fun r1 => some (r1.1, r1.2)
set_option maxHeartbeats 4000000 in
set_option maxRecDepth 100000 in
theorem c_X7_led (l : Launch) (D : va_G) (cy : gCy) (ad : Nat → Nat) (M : gMem) (x1 : Int32) (x2 : Int32) (r0 : (Int32 × gMem)) (hm : mX7_led M x1 x2 = some r0) : Met l yX7_led wsX7_led (gR 5 113) (va_Pc [.ref (ad 0), .int x1, .int x2] (gP shC D cy ad M)) (gQi shC D cy ad r0.1 r0.2) 0 0 (gA shC ad) := by
  refine gEnter (cc := cX7_led) (maxL := 3) (ret := (some .int)) (by decide) rfl (Nat.le_of_ble_eq_true rfl) ?_
  intro p e s m below meth c ls S hr hlk C hl
  have S : CallFix p m c cX7_led 3 s _ wsX7_led RX7 := S
  have hl : lv_has ls 3 [(0, .ref (ad 0)), (1, .int x1), (2, .int x2)] := hl
  rw [mX7_led] at hm
  refine lv_aload_n S.1 S.2.1 dX7_led_0 rfl (lv_at hl 0 rfl) ?_
  refine g_get (k := 0) (ci := 6) (f := 8) (v := .ref (ad 53))  S C kiX7_led_X7 kfX7_led_59 rfl (by decide) shC_0 rfl rfl dX7_led_1 ?_
  refine lv_iload_n S.1 S.2.1 dX7_led_4 rfl (lv_at hl 1 rfl) ?_
  refine lv_iload_n S.1 S.2.1 dX7_led_5 rfl (lv_at hl 2 rfl) ?_
  obtain ⟨r1, hcr1, hm⟩ := bd_ok hm
  refine gC_i C (gRV (k := 53) (ci := 5) (r := (RX6, TX6, 5)) (As := [.int x1, .int x2]) (rest := []) 2 S C (c_X6_goalBehind l D cy ad M x1 x2 r1 hcr1) gX7_led_X6_goalBehind rfl (by decide +kernel) (by decide) shC_53 rfl rfl rfl hl.1 rfl (Nat.le_of_ble_eq_true rfl) dX7_led_6) (fun H locs C => ?_)
  exact gReti S hr hlk C (pr1 hm) (pr2 hm) dX7_led_9
def mX7_nodes (M : gMem) (x1 : Int32) (x2 : Int32) : Option (Int64 × gMem) := (mX7_isBook x1).bind fun r1 => if r1 = 0 then (some ((-1 : Int64), M)) else (if x2 = (0 : Int32) then (ck (inb x1 6) <| (mX5_plantWhole M (2 + 4 * x1.toNatClampNeg)).bind fun r5 => some (((r5.1 34 6).toInt64), r5)) else (if x2 = (1 : Int32) then (ck (inb x1 6) <| (mX4_nodesOf M (2 + 4 * x1.toNatClampNeg)).bind fun r8 => some ((r8.toInt64), M)) else (if x2 = (2 : Int32) then (ck (inb x1 6) <| (mX4_deepest M (2 + 4 * x1.toNatClampNeg)).bind fun r11 => (mX4_stepsDownTo r11).bind fun r12 => some ((r12.toInt64), M)) else (if x2 = (3 : Int32) then (ck (inb x1 6) <| (mX4_firstDeepest M (2 + 4 * x1.toNatClampNeg)).bind fun r15 => some (r15, M)) else (some ((-1 : Int64), M))))))
set_option maxHeartbeats 4000000 in
set_option maxRecDepth 100000 in
theorem c_X7_nodes (l : Launch) (D : va_G) (cy : gCy) (ad : Nat → Nat) (M : gMem) (x1 : Int32) (x2 : Int32) (r0 : (Int64 × gMem)) (hm : mX7_nodes M x1 x2 = some r0) : Met l yX7_nodes wsX7_nodes (gR 122 2811) (va_Pc [.ref (ad 0), .int x1, .int x2] (gP shC D cy ad M)) (gQl shC D cy ad r0.1 r0.2) 0 0 (gA shC ad) := by
  refine gEnter (cc := cX7_nodes) (maxL := 3) (ret := (some .long)) (by decide) rfl (Nat.le_of_ble_eq_true rfl) ?_
  intro p e s m below meth c ls S hr hlk C hl
  have S : CallFix p m c cX7_nodes 3 s _ wsX7_nodes RX7 := S
  have hl : lv_has ls 3 [(0, .ref (ad 0)), (1, .int x1), (2, .int x2)] := hl
  rw [mX7_nodes] at hm
  refine lv_iload_n S.1 S.2.1 dX7_nodes_0 rfl (lv_at hl 1 rfl) ?_
  obtain ⟨r1, hcr1, hm⟩ := bd_ok hm
  refine gC_i C (gRS (As := [.int x1]) (rest := []) 1 S C (c_X7_isBook l D cy ad M x1 r1 hcr1) gX7_nodes_X7_isBook rfl (by decide +kernel) (by decide) rfl hl.1 rfl (Nat.le_of_ble_eq_true rfl) dX7_nodes_1) (fun H locs C => ?_)
  refine lv_if_ne (tgt := 11) S.1 S.2.1 dX7_nodes_4 (by decide) (fun c2 => ?_) (fun c2 => ?_)
  · rw [if_neg c2] at hm
    refine lv_iload_n S.1 S.2.1 dX7_nodes_11 rfl (lv_at hl 2 rfl) ?_
    by_cases c3 : x2 = (0 : Int32)
    · rw [if_pos c3] at hm
      refine lv_tableIn (tgt := 44) S.1 S.2.1 dX7_nodes_12 (by rw [c3]; decide) (by rw [c3]; decide) (by rw [c3]; rfl) (by decide) ?_
      refine lv_aload_n S.1 S.2.1 dX7_nodes_44 rfl (lv_at hl 0 rfl) ?_
      refine g_get (k := 0) (ci := 6) (f := 3) (v := .ref (ad 34))  S C kiX7_nodes_X7 kfX7_nodes_28 rfl (by decide) shC_0 rfl rfl dX7_nodes_45 ?_
      refine lv_aload_n S.1 S.2.1 dX7_nodes_48 rfl (lv_at hl 0 rfl) ?_
      refine g_get (k := 0) (ci := 6) (f := 0) (v := .ref (ad 1))  S C kiX7_nodes_X7 kfX7_nodes_11 rfl (by decide) shC_0 rfl rfl dX7_nodes_49 ?_
      refine lv_iload_n S.1 S.2.1 dX7_nodes_52 rfl (lv_at hl 1 rfl) ?_
      obtain ⟨h4, hm⟩ := ck_ok hm
      refine g_aald S C (k := 1) shC_1 h4 dX7_nodes_53 ?_
      obtain ⟨r5, hcr5, hm⟩ := bd_ok hm
      refine gC_v C (gRV (k := 34) (ci := 4) (r := (RX5, TX5, 7)) (As := [.ref (ad (2 + 4 * x1.toNatClampNeg))]) (rest := []) 1 S C (c_X5_plantWhole l D cy ad M (2 + 4 * x1.toNatClampNeg) (isL_book h4) r5 hcr5) gX7_nodes_X5_plantWhole rfl (by decide +kernel) (by decide) shC_34 rfl rfl rfl hl.1 rfl (Nat.le_of_ble_eq_true rfl) dX7_nodes_54) (fun H locs C => ?_)
      refine lv_aload_n S.1 S.2.1 dX7_nodes_57 rfl (lv_at hl 0 rfl) ?_
      refine g_get (k := 0) (ci := 6) (f := 3) (v := .ref (ad 34))  S C kiX7_nodes_X7 kfX7_nodes_28 rfl (by decide) shC_0 rfl rfl dX7_nodes_58 ?_
      refine g_getN (k := 34) (ci := 4) (f := 6) (v := .int (r5.1 34 6)) (host := "PrefixLeader") S C kiX7_nodes_X5 (by decide +kernel) rfl (by decide) shC_34 rfl rfl dX7_nodes_61 ?_
      refine lv_i2l (v := (r5.1 34 6).toInt64) S.1 S.2.1 dX7_nodes_64 rfl ?_
      exact gRetl S hr hlk C (pr1 hm) (pr2 hm) dX7_nodes_65
    · rw [if_neg c3] at hm
      by_cases c6 : x2 = (1 : Int32)
      · rw [if_pos c6] at hm
        refine lv_tableIn (tgt := 66) S.1 S.2.1 dX7_nodes_12 (by rw [c6]; decide) (by rw [c6]; decide) (by rw [c6]; rfl) (by decide) ?_
        refine lv_aload_n S.1 S.2.1 dX7_nodes_66 rfl (lv_at hl 0 rfl) ?_
        refine g_get (k := 0) (ci := 6) (f := 0) (v := .ref (ad 1))  S C kiX7_nodes_X7 kfX7_nodes_11 rfl (by decide) shC_0 rfl rfl dX7_nodes_67 ?_
        refine lv_iload_n S.1 S.2.1 dX7_nodes_70 rfl (lv_at hl 1 rfl) ?_
        obtain ⟨h7, hm⟩ := ck_ok hm
        refine g_aald S C (k := 1) shC_1 h7 dX7_nodes_71 ?_
        obtain ⟨r8, hcr8, hm⟩ := bd_ok hm
        refine gC_i C (gRS (As := [.ref (ad (2 + 4 * x1.toNatClampNeg))]) (rest := []) 1 S C (c_X4_nodesOf l D cy ad M (2 + 4 * x1.toNatClampNeg) (isL_book h7) r8 hcr8) gX7_nodes_X4_nodesOf rfl (by decide +kernel) (by decide) rfl hl.1 rfl (Nat.le_of_ble_eq_true rfl) dX7_nodes_72) (fun H locs C => ?_)
        refine lv_i2l (v := r8.toInt64) S.1 S.2.1 dX7_nodes_75 rfl ?_
        exact gRetl S hr hlk C (pr1 hm) (pr2 hm) dX7_nodes_76
      · rw [if_neg c6] at hm
        by_cases c9 : x2 = (2 : Int32)
        · rw [if_pos c9] at hm
          refine lv_tableIn (tgt := 77) S.1 S.2.1 dX7_nodes_12 (by rw [c9]; decide) (by rw [c9]; decide) (by rw [c9]; rfl) (by decide) ?_
          refine lv_aload_n S.1 S.2.1 dX7_nodes_77 rfl (lv_at hl 0 rfl) ?_
          refine g_get (k := 0) (ci := 6) (f := 0) (v := .ref (ad 1))  S C kiX7_nodes_X7 kfX7_nodes_11 rfl (by decide) shC_0 rfl rfl dX7_nodes_78 ?_
          refine lv_iload_n S.1 S.2.1 dX7_nodes_81 rfl (lv_at hl 1 rfl) ?_
          obtain ⟨h10, hm⟩ := ck_ok hm
          refine g_aald S C (k := 1) shC_1 h10 dX7_nodes_82 ?_
          obtain ⟨r11, hcr11, hm⟩ := bd_ok hm
          refine gC_i C (gRS (As := [.ref (ad (2 + 4 * x1.toNatClampNeg))]) (rest := []) 1 S C (c_X4_deepest l D cy ad M (2 + 4 * x1.toNatClampNeg) (isL_book h10) r11 hcr11) gX7_nodes_X4_deepest rfl (by decide +kernel) (by decide) rfl hl.1 rfl (Nat.le_of_ble_eq_true rfl) dX7_nodes_83) (fun H locs C => ?_)
          obtain ⟨r12, hcr12, hm⟩ := bd_ok hm
          refine gC_i C (gRS (As := [.int r11]) (rest := []) 1 S C (c_X4_stepsDownTo l D cy ad M r11 r12 hcr12) gX7_nodes_X4_stepsDownTo rfl (by decide +kernel) (by decide) rfl hl.1 rfl (Nat.le_of_ble_eq_true rfl) dX7_nodes_86) (fun H locs C => ?_)
          refine lv_i2l (v := r12.toInt64) S.1 S.2.1 dX7_nodes_89 rfl ?_
          exact gRetl S hr hlk C (pr1 hm) (pr2 hm) dX7_nodes_90
        · rw [if_neg c9] at hm
          by_cases c13 : x2 = (3 : Int32)
          · rw [if_pos c13] at hm
            refine lv_tableIn (tgt := 91) S.1 S.2.1 dX7_nodes_12 (by rw [c13]; decide) (by rw [c13]; decide) (by rw [c13]; rfl) (by decide) ?_
            refine lv_aload_n S.1 S.2.1 dX7_nodes_91 rfl (lv_at hl 0 rfl) ?_
            refine g_get (k := 0) (ci := 6) (f := 0) (v := .ref (ad 1))  S C kiX7_nodes_X7 kfX7_nodes_11 rfl (by decide) shC_0 rfl rfl dX7_nodes_92 ?_
            refine lv_iload_n S.1 S.2.1 dX7_nodes_95 rfl (lv_at hl 1 rfl) ?_
            obtain ⟨h14, hm⟩ := ck_ok hm
            refine g_aald S C (k := 1) shC_1 h14 dX7_nodes_96 ?_
            obtain ⟨r15, hcr15, hm⟩ := bd_ok hm
            refine gC_l C (gRS (As := [.ref (ad (2 + 4 * x1.toNatClampNeg))]) (rest := []) 1 S C (c_X4_firstDeepest l D cy ad M (2 + 4 * x1.toNatClampNeg) (isL_book h14) r15 hcr15) gX7_nodes_X4_firstDeepest rfl (by decide +kernel) (by decide) rfl hl.1 rfl (Nat.le_of_ble_eq_true rfl) dX7_nodes_97) (fun H locs C => ?_)
            exact gRetl S hr hlk C (pr1 hm) (pr2 hm) dX7_nodes_100
          · rw [if_neg c13] at hm
            refine lv_tableOut (tgt := 101) S.1 S.2.1 dX7_nodes_12 (tb4 c3 c6 c9 c13) (by decide) ?_
            refine lv_ldc2 (v := (-1 : Int64)) S.1 S.2.1 S.2.2.2.1 (S.2.2.2.2 _ kcX7_nodes_101) dX7_nodes_101 ?_
            exact gRetl S hr hlk C (pr1 hm) (pr2 hm) dX7_nodes_104
  · rw [if_pos c2] at hm
    refine lv_ldc2 (v := (-1 : Int64)) S.1 S.2.1 S.2.2.2.1 (S.2.2.2.2 _ kcX7_nodes_101) dX7_nodes_7 ?_
    exact gRetl S hr hlk C (pr1 hm) (pr2 hm) dX7_nodes_10
def mX7_steps (M : gMem) (x1 : Int32) (x2 : Int32) : Option Int32 := (mX7_isBook x1).bind fun r1 => if r1 = 0 then (some (-1 : Int32)) else (ck (inb x1 6) <| (mX4_stepsOf M (2 + 4 * x1.toNatClampNeg) x2).bind fun r4 => some r4)
set_option maxHeartbeats 4000000 in
set_option maxRecDepth 100000 in
theorem c_X7_steps (l : Launch) (D : va_G) (cy : gCy) (ad : Nat → Nat) (M : gMem) (x1 : Int32) (x2 : Int32) (r0 : Int32) (hm : mX7_steps M x1 x2 = some r0) : Met l yX7_steps wsX7_steps (gR 5 110) (va_Pc [.ref (ad 0), .int x1, .int x2] (gP shC D cy ad M)) (gQi shC D cy ad r0 M) 0 0 (gA shC ad) := by
  refine gEnter (cc := cX7_steps) (maxL := 3) (ret := (some .int)) (by decide) rfl (Nat.le_of_ble_eq_true rfl) ?_
  intro p e s m below meth c ls S hr hlk C hl
  have S : CallFix p m c cX7_steps 3 s _ wsX7_steps RX7 := S
  have hl : lv_has ls 3 [(0, .ref (ad 0)), (1, .int x1), (2, .int x2)] := hl
  rw [mX7_steps] at hm
  refine lv_iload_n S.1 S.2.1 dX7_steps_0 rfl (lv_at hl 1 rfl) ?_
  obtain ⟨r1, hcr1, hm⟩ := bd_ok hm
  refine gC_i C (gRS (As := [.int x1]) (rest := []) 1 S C (c_X7_isBook l D cy ad M x1 r1 hcr1) gX7_steps_X7_isBook rfl (by decide +kernel) (by decide) rfl hl.1 rfl (Nat.le_of_ble_eq_true rfl) dX7_steps_1) (fun H locs C => ?_)
  refine lv_if_eq (tgt := 20) S.1 S.2.1 dX7_steps_4 (by decide) (fun c2 => ?_) (fun c2 => ?_)
  · rw [if_pos c2] at hm
    refine lv_iconst (v := (-1 : Int32)) S.1 S.2.1 dX7_steps_20 (by decide) ?_
    exact gReti S hr hlk C (Option.some.inj hm) rfl dX7_steps_21
  · rw [if_neg c2] at hm
    refine lv_aload_n S.1 S.2.1 dX7_steps_7 rfl (lv_at hl 0 rfl) ?_
    refine g_get (k := 0) (ci := 6) (f := 0) (v := .ref (ad 1))  S C kiX7_steps_X7 kfX7_steps_11 rfl (by decide) shC_0 rfl rfl dX7_steps_8 ?_
    refine lv_iload_n S.1 S.2.1 dX7_steps_11 rfl (lv_at hl 1 rfl) ?_
    obtain ⟨h3, hm⟩ := ck_ok hm
    refine g_aald S C (k := 1) shC_1 h3 dX7_steps_12 ?_
    refine lv_iload_n S.1 S.2.1 dX7_steps_13 rfl (lv_at hl 2 rfl) ?_
    obtain ⟨r4, hcr4, hm⟩ := bd_ok hm
    refine gC_i C (gRS (As := [.ref (ad (2 + 4 * x1.toNatClampNeg)), .int x2]) (rest := []) 2 S C (c_X4_stepsOf l D cy ad M (2 + 4 * x1.toNatClampNeg) (isL_book h3) x2 r4 hcr4) gX7_steps_X4_stepsOf rfl (by decide +kernel) (by decide) rfl hl.1 rfl (Nat.le_of_ble_eq_true rfl) dX7_steps_14) (fun H locs C => ?_)
    refine lv_goto (tgt := 21) S.1 S.2.1 dX7_steps_17 (by decide) ?_
    exact gReti S hr hlk C (Option.some.inj hm) rfl dX7_steps_21
