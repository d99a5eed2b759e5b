theorem kiX5_setOfSide_X5 : ∀ w ∈ wsX50, w ∈ wsX5_setOfSide := by decide +kernel
theorem kfX5_setOfSide_18 : Cond.fieldLink RX5 18 "PrefixLeader$Tree" "goal" "[I" ∈ wsX5_setOfSide := by decide +kernel
theorem kfX5_setOfSide_30 : Cond.fieldLink RX5 30 "PrefixLeader$Tree" "size" "I" ∈ wsX5_setOfSide := by decide +kernel
theorem kfX5_setOfSide_15 : Cond.fieldLink RX5 15 "PrefixLeader$Tree" "bits" "[I" ∈ wsX5_setOfSide := by decide +kernel
theorem kfX5_setOfSide_27 : Cond.fieldLink RX5 27 "PrefixLeader$Tree" "sets" "[I" ∈ wsX5_setOfSide := by decide +kernel
theorem kiX5_growSide_X2 : ∀ w ∈ wsX20, w ∈ wsX5_growSide := by decide +kernel
theorem kfX5_growSide_34 : Cond.fieldLink RX5 34 "PrefixLeader$Lines" "size" "I" ∈ wsX5_growSide := by decide +kernel
theorem kiX5_growSide_X5 : ∀ w ∈ wsX50, w ∈ wsX5_growSide := by decide +kernel
theorem kfX5_growSide_15 : Cond.fieldLink RX5 15 "PrefixLeader$Tree" "bits" "[I" ∈ wsX5_growSide := by decide +kernel
theorem kfX5_growSide_64 : Cond.fieldLink RX5 64 "PrefixLeader$Lines" "address" "[I" ∈ wsX5_growSide := by decide +kernel
theorem knX5_growSide_X7_maski : Cond.initialized yX7_mask.cls ∈ wsX5_growSide := by decide +kernel
theorem knX5_growSide_X7_masks : Cond.static yX7_mask ∈ wsX5_growSide := by decide +kernel
theorem kfX5_growSide_18 : Cond.fieldLink RX5 18 "PrefixLeader$Tree" "goal" "[I" ∈ wsX5_growSide := by decide +kernel
theorem kiX5_grow_X5 : ∀ w ∈ wsX50, w ∈ wsX5_grow := by decide +kernel
theorem kfX5_grow_30 : Cond.fieldLink RX5 30 "PrefixLeader$Tree" "size" "I" ∈ wsX5_grow := by decide +kernel
theorem kfX5_grow_11 : Cond.fieldLink RX5 11 "PrefixLeader$Tree" "address" "[I" ∈ wsX5_grow := by decide +kernel
theorem kfX5_grow_15 : Cond.fieldLink RX5 15 "PrefixLeader$Tree" "bits" "[I" ∈ wsX5_grow := by decide +kernel
theorem kfX5_grow_18 : Cond.fieldLink RX5 18 "PrefixLeader$Tree" "goal" "[I" ∈ wsX5_grow := by decide +kernel
theorem kiX5_grow_X2 : ∀ w ∈ wsX20, w ∈ wsX5_grow := by decide +kernel
theorem kfX5_grow_45 : Cond.fieldLink RX5 45 "PrefixLeader$Lines" "goal" "[I" ∈ wsX5_grow := by decide +kernel
theorem kfX5_grow_21 : Cond.fieldLink RX5 21 "PrefixLeader$Tree" "low" "[I" ∈ wsX5_grow := by decide +kernel
theorem kfX5_grow_24 : Cond.fieldLink RX5 24 "PrefixLeader$Tree" "high" "[I" ∈ wsX5_grow := by decide +kernel
theorem kfX5_grow_27 : Cond.fieldLink RX5 27 "PrefixLeader$Tree" "sets" "[I" ∈ wsX5_grow := by decide +kernel
theorem kiX5_plantWhole_X5 : ∀ w ∈ wsX50, w ∈ wsX5_plantWhole := by decide +kernel
theorem kfX5_plantWhole_30 : Cond.fieldLink RX5 30 "PrefixLeader$Tree" "size" "I" ∈ wsX5_plantWhole := by decide +kernel
theorem kiX5_plantWhole_X2 : ∀ w ∈ wsX20, w ∈ wsX5_plantWhole := by decide +kernel
theorem kfX5_plantWhole_34 : Cond.fieldLink RX5 34 "PrefixLeader$Lines" "size" "I" ∈ wsX5_plantWhole := by decide +kernel
theorem kiX5_plant_X5 : ∀ w ∈ wsX50, w ∈ wsX5_plant := by decide +kernel
theorem kfX5_plant_30 : Cond.fieldLink RX5 30 "PrefixLeader$Tree" "size" "I" ∈ wsX5_plant := by decide +kernel
theorem kiX5_setOfTop_X5 : ∀ w ∈ wsX50, w ∈ wsX5_setOfTop := by decide +kernel
theorem kfX5_setOfTop_30 : Cond.fieldLink RX5 30 "PrefixLeader$Tree" "size" "I" ∈ wsX5_setOfTop := by decide +kernel
theorem kfX5_setOfTop_27 : Cond.fieldLink RX5 27 "PrefixLeader$Tree" "sets" "[I" ∈ wsX5_setOfTop := by decide +kernel
theorem kiX5_writeWithTwin_X5 : ∀ w ∈ wsX50, w ∈ wsX5_writeWithTwin := by decide +kernel
theorem kfX5_writeWithTwin_15 : Cond.fieldLink RX5 15 "PrefixLeader$Tree" "bits" "[I" ∈ wsX5_writeWithTwin := by decide +kernel
theorem knX5_writeWithTwin_X7_bitAti : Cond.initialized yX7_bitAt.cls ∈ wsX5_writeWithTwin := by decide +kernel
theorem knX5_writeWithTwin_X7_bitAts : Cond.static yX7_bitAt ∈ wsX5_writeWithTwin := by decide +kernel
theorem kfX5_writeWithTwin_11 : Cond.fieldLink RX5 11 "PrefixLeader$Tree" "address" "[I" ∈ wsX5_writeWithTwin := by decide +kernel
theorem kfX5_writeWithTwin_18 : Cond.fieldLink RX5 18 "PrefixLeader$Tree" "goal" "[I" ∈ wsX5_writeWithTwin := by decide +kernel
theorem kiX5_writeSide_X5 : ∀ w ∈ wsX50, w ∈ wsX5_writeSide := by decide +kernel
theorem kfX5_writeSide_15 : Cond.fieldLink RX5 15 "PrefixLeader$Tree" "bits" "[I" ∈ wsX5_writeSide := by decide +kernel
theorem kfX5_writeSide_30 : Cond.fieldLink RX5 30 "PrefixLeader$Tree" "size" "I" ∈ wsX5_writeSide := by decide +kernel
theorem kiX5_writeNode_X5 : ∀ w ∈ wsX50, w ∈ wsX5_writeNode := by decide +kernel
theorem kfX5_writeNode_30 : Cond.fieldLink RX5 30 "PrefixLeader$Tree" "size" "I" ∈ wsX5_writeNode := by decide +kernel
theorem kfX5_writeNode_11 : Cond.fieldLink RX5 11 "PrefixLeader$Tree" "address" "[I" ∈ wsX5_writeNode := by decide +kernel
theorem kfX5_writeNode_15 : Cond.fieldLink RX5 15 "PrefixLeader$Tree" "bits" "[I" ∈ wsX5_writeNode := by decide +kernel
theorem kfX5_writeNode_27 : Cond.fieldLink RX5 27 "PrefixLeader$Tree" "sets" "[I" ∈ wsX5_writeNode := by decide +kernel
theorem kfX5_writeNode_21 : Cond.fieldLink RX5 21 "PrefixLeader$Tree" "low" "[I" ∈ wsX5_writeNode := by decide +kernel
theorem kfX5_writeNode_24 : Cond.fieldLink RX5 24 "PrefixLeader$Tree" "high" "[I" ∈ wsX5_writeNode := by decide +kernel
theorem knX5_writeNode_X7_bitAti : Cond.initialized yX7_bitAt.cls ∈ wsX5_writeNode := by decide +kernel
theorem knX5_writeNode_X7_bitAts : Cond.static yX7_bitAt ∈ wsX5_writeNode := by decide +kernel
def mX5_both (x0 : Int32) (x1 : Int32) : Option Int32 := if (x0 &&& x1) = 0 then (some (x0 ||| x1)) else (some (x0 &&& x1))
set_option maxHeartbeats 4000000 in
set_option maxRecDepth 100000 in
theorem c_X5_both (l : Launch) (D : va_G) (cy : gCy) (ad : Nat → Nat) (M : gMem) (x0 : Int32) (x1 : Int32) (r0 : Int32) (hm : mX5_both x0 x1 = some r0) : Met l yX5_both wsX5_both (gR 0 0) (va_Pc [.int x0, .int x1] (gP shC D cy ad M)) (gQi shC D cy ad r0 M) 0 0 (gA shC ad) := by
  refine gEnter (cc := cX5_both) (maxL := 2) (ret := (some .int)) (by decide) rfl (Nat.le_of_ble_eq_true rfl) ?_
  intro p e s m below meth c ls S hr hlk C hl
  have S : CallFix p m c cX5_both 2 s _ wsX5_both RX5 := S
  have hl : lv_has ls 2 [(0, .int x0), (1, .int x1)] := hl
  rw [mX5_both] at hm
  refine lv_iload_n S.1 S.2.1 dX5_both_0 rfl (lv_at hl 0 rfl) ?_
  refine lv_iload_n S.1 S.2.1 dX5_both_1 rfl (lv_at hl 1 rfl) ?_
  refine lv_iand S.1 S.2.1 dX5_both_2 ?_
  refine lv_if_eq (tgt := 12) S.1 S.2.1 dX5_both_3 (by decide) (fun c1 => ?_) (fun c1 => ?_)
  · rw [if_pos c1] at hm
    refine lv_iload_n S.1 S.2.1 dX5_both_12 rfl (lv_at hl 0 rfl) ?_
    refine lv_iload_n S.1 S.2.1 dX5_both_13 rfl (lv_at hl 1 rfl) ?_
    refine lv_ior S.1 S.2.1 dX5_both_14 ?_
    exact gReti S hr hlk C (Option.some.inj hm) rfl dX5_both_15
  · rw [if_neg c1] at hm
    refine lv_iload_n S.1 S.2.1 dX5_both_6 rfl (lv_at hl 0 rfl) ?_
    refine lv_iload_n S.1 S.2.1 dX5_both_7 rfl (lv_at hl 1 rfl) ?_
    refine lv_iand S.1 S.2.1 dX5_both_8 ?_
    refine lv_goto (tgt := 15) S.1 S.2.1 dX5_both_9 (by decide) ?_
    exact gReti S hr hlk C (Option.some.inj hm) rfl dX5_both_15
def mX5_setOfSide (M : gMem) (x1 : Int32) (x2 : Int32) : Option Int32 := ck (inb x1 256) <| nmd ((1 : Int32) <<< ((M.1 37 x1.toNatClampNeg) &&& 31)) fun y2 => if x2 < 0 then (some y2) else (if x2 < (M.1 34 6) then (ck (inb x2 256) <| ck (inb x1 256) <| nmd (((M.1 36 x2.toNatClampNeg) - (M.1 36 x1.toNatClampNeg)) - (1 : Int32)) fun y7 => if 0 < y7 then (if y7 = (1 : Int32) then (ck (inb x2 256) <| (mX5_both (M.1 40 x2.toNatClampNeg) y2).bind fun r11 => some r11) else (some y2)) else (ck (inb x2 256) <| some (M.1 40 x2.toNatClampNeg))) else (some y2))
set_option maxHeartbeats 4000000 in
set_option maxRecDepth 100000 in
theorem c_X5_setOfSide (l : Launch) (D : va_G) (cy : gCy) (ad : Nat → Nat) (M : gMem) (x1 : Int32) (x2 : Int32) (r0 : Int32) (hm : mX5_setOfSide M x1 x2 = some r0) : Met l yX5_setOfSide wsX5_setOfSide (gR 1 21) (va_Pc [.ref (ad 34), .int x1, .int x2] (gP shC D cy ad M)) (gQi shC D cy ad r0 M) 0 0 (gA shC ad) := by
  refine gEnter (cc := cX5_setOfSide) (maxL := 5) (ret := (some .int)) (by decide) rfl (Nat.le_of_ble_eq_true rfl) ?_
  intro p e s m below meth c ls S hr hlk C hl
  have S : CallFix p m c cX5_setOfSide 5 s _ wsX5_setOfSide RX5 := S
  have hl : lv_has ls 5 [(0, .ref (ad 34)), (1, .int x1), (2, .int x2)] := hl
  rw [mX5_setOfSide] at hm
  refine lv_iconst (v := (1 : Int32)) S.1 S.2.1 dX5_setOfSide_0 (by decide) ?_
  refine lv_aload_n S.1 S.2.1 dX5_setOfSide_1 rfl (lv_at hl 0 rfl) ?_
  refine g_get (k := 34) (ci := 4) (f := 2) (v := .ref (ad 37))  S C kiX5_setOfSide_X5 kfX5_setOfSide_18 rfl (by decide) shC_34 rfl rfl dX5_setOfSide_2 ?_
  refine lv_iload_n S.1 S.2.1 dX5_setOfSide_5 rfl (lv_at hl 1 rfl) ?_
  obtain ⟨h1, hm⟩ := ck_ok hm
  refine g_iald S C (k := 37) shC_37 h1 dX5_setOfSide_6 ?_
  refine lv_ishl S.1 S.2.1 dX5_setOfSide_7 ?_
  obtain ⟨y2, ey2, hm⟩ := nmd_ok hm
  refine gNmI ey2 ?_
  refine lv_istore_n (lv' := [(3, .int y2), (0, .ref (ad 34)), (1, .int x1), (2, .int x2)]) S.1 S.2.1 dX5_setOfSide_8 rfl hl (by decide) rfl (fun ls hl => ?_)
  refine lv_iload_n S.1 S.2.1 dX5_setOfSide_9 rfl (lv_at hl 3 rfl) ?_
  refine lv_if_lt (tgt := 21) S.1 S.2.1 dX5_setOfSide_10 (by decide) (fun c3 => ?_) (fun c3 => ?_)
  · rw [if_pos c3] at hm
    refine lv_iload_n S.1 S.2.1 dX5_setOfSide_21 rfl (lv_at hl 0 rfl) ?_
    exact gReti S hr hlk C (Option.some.inj hm) rfl dX5_setOfSide_22
  · rw [if_neg c3] at hm
    refine lv_iload_n S.1 S.2.1 dX5_setOfSide_13 rfl (lv_at hl 3 rfl) ?_
    refine lv_aload_n S.1 S.2.1 dX5_setOfSide_14 rfl (lv_at hl 1 rfl) ?_
    refine g_get (k := 34) (ci := 4) (f := 6) (v := .int (M.1 34 6))  S C kiX5_setOfSide_X5 kfX5_setOfSide_30 rfl (by decide) shC_34 rfl rfl dX5_setOfSide_15 ?_
    refine lv_icmp_lt (tgt := 23) S.1 S.2.1 dX5_setOfSide_18 (by decide) (fun c4 => ?_) (fun c4 => ?_)
    · rw [if_pos c4] at hm
      refine lv_aload_n S.1 S.2.1 dX5_setOfSide_23 rfl (lv_at hl 1 rfl) ?_
      refine g_get (k := 34) (ci := 4) (f := 1) (v := .ref (ad 36))  S C kiX5_setOfSide_X5 kfX5_setOfSide_15 rfl (by decide) shC_34 rfl rfl dX5_setOfSide_24 ?_
      refine lv_iload_n S.1 S.2.1 dX5_setOfSide_27 rfl (lv_at hl 3 rfl) ?_
      obtain ⟨h5, hm⟩ := ck_ok hm
      refine g_iald S C (k := 36) shC_36 h5 dX5_setOfSide_28 ?_
      refine lv_aload_n S.1 S.2.1 dX5_setOfSide_29 rfl (lv_at hl 1 rfl) ?_
      refine g_get (k := 34) (ci := 4) (f := 1) (v := .ref (ad 36))  S C kiX5_setOfSide_X5 kfX5_setOfSide_15 rfl (by decide) shC_34 rfl rfl dX5_setOfSide_30 ?_
      refine lv_iload_n S.1 S.2.1 dX5_setOfSide_33 rfl (lv_at hl 2 rfl) ?_
      obtain ⟨h6, hm⟩ := ck_ok hm
      refine g_iald S C (k := 36) shC_36 h6 dX5_setOfSide_34 ?_
      refine lv_isub S.1 S.2.1 dX5_setOfSide_35 ?_
      refine lv_iconst (v := (1 : Int32)) S.1 S.2.1 dX5_setOfSide_36 (by decide) ?_
      refine lv_isub S.1 S.2.1 dX5_setOfSide_37 ?_
      obtain ⟨y7, ey7, hm⟩ := nmd_ok hm
      refine gNmI ey7 ?_
      refine lv_istore (lv' := [(4, .int y7), (3, .int y2), (0, .ref (ad 34)), (1, .int x1), (2, .int x2)]) S.1 S.2.1 dX5_setOfSide_38 hl (by decide) rfl (fun ls hl => ?_)
      refine lv_iload S.1 S.2.1 dX5_setOfSide_40 (lv_at hl 0 rfl) ?_
      refine lv_if_gt (tgt := 52) S.1 S.2.1 dX5_setOfSide_42 (by decide) (fun c8 => ?_) (fun c8 => ?_)
      · rw [if_pos c8] at hm
        refine lv_iload S.1 S.2.1 dX5_setOfSide_52 (lv_at hl 0 rfl) ?_
        refine lv_iconst (v := (1 : Int32)) S.1 S.2.1 dX5_setOfSide_54 (by decide) ?_
        refine lv_icmp_ne (tgt := 71) S.1 S.2.1 dX5_setOfSide_55 (by decide) (fun c9 => ?_) (fun c9 => ?_)
        · rw [if_neg c9] at hm
          refine lv_iload_n S.1 S.2.1 dX5_setOfSide_71 rfl (lv_at hl 1 rfl) ?_
          exact gReti S hr hlk C (Option.some.inj hm) rfl dX5_setOfSide_72
        · rw [if_pos c9] at hm
          refine lv_aload_n S.1 S.2.1 dX5_setOfSide_58 rfl (lv_at hl 2 rfl) ?_
          refine g_get (k := 34) (ci := 4) (f := 5) (v := .ref (ad 40))  S C kiX5_setOfSide_X5 kfX5_setOfSide_27 rfl (by decide) shC_34 rfl rfl dX5_setOfSide_59 ?_
          refine lv_iload_n S.1 S.2.1 dX5_setOfSide_62 rfl (lv_at hl 4 rfl) ?_
          obtain ⟨h10, hm⟩ := ck_ok hm
          refine g_iald S C (k := 40) shC_40 h10 dX5_setOfSide_63 ?_
          refine lv_iload_n S.1 S.2.1 dX5_setOfSide_64 rfl (lv_at hl 1 rfl) ?_
          obtain ⟨r11, hcr11, hm⟩ := bd_ok hm
          refine gC_i C (gRS (As := [.int (M.1 40 x2.toNatClampNeg), .int y2]) (rest := []) 2 S C (c_X5_both l D cy ad M (M.1 40 x2.toNatClampNeg) y2 r11 hcr11) gX5_setOfSide_X5_both rfl (by decide +kernel) (by decide) rfl hl.1 rfl (Nat.le_of_ble_eq_true rfl) dX5_setOfSide_65) (fun H locs C => ?_)
          refine lv_goto (tgt := 72) S.1 S.2.1 dX5_setOfSide_68 (by decide) ?_
          exact gReti S hr hlk C (Option.some.inj hm) rfl dX5_setOfSide_72
      · rw [if_neg c8] at hm
        refine lv_aload_n S.1 S.2.1 dX5_setOfSide_45 rfl (lv_at hl 2 rfl) ?_
        refine g_get (k := 34) (ci := 4) (f := 5) (v := .ref (ad 40))  S C kiX5_setOfSide_X5 kfX5_setOfSide_27 rfl (by decide) shC_34 rfl rfl dX5_setOfSide_46 ?_
        refine lv_iload_n S.1 S.2.1 dX5_setOfSide_49 rfl (lv_at hl 4 rfl) ?_
        obtain ⟨h12, hm⟩ := ck_ok hm
        refine g_iald S C (k := 40) shC_40 h12 dX5_setOfSide_50 ?_
        exact gReti S hr hlk C (Option.some.inj hm) rfl dX5_setOfSide_51
    · rw [if_neg c4] at hm
      refine lv_iload_n S.1 S.2.1 dX5_setOfSide_21 rfl (lv_at hl 0 rfl) ?_
      exact gReti S hr hlk C (Option.some.inj hm) rfl dX5_setOfSide_22
def mX5_growSide (rec : gMem → Nat → Int32 → Int32 → Int32 → Int32 → Int32 → Option (Int32 × gMem)) (M : gMem) (x1 : Nat) (x2 : Int32) (x3 : Int32) (x4 : Int32) : Option (Int32 × gMem) := if x2 < 0 then (some ((-1 : Int32), M)) else (if x3 ≤ x2 then (some ((-1 : Int32), M)) else (if x3 ≤ (M.1 x1 4) then ((mX2_commonBits M x1 x2 (x3 - (1 : Int32))).bind fun r4 => ck (inb x4 256) <| if (M.1 36 x4.toNatClampNeg) < r4 then (ck (inb x2 (lnOf x1)) <| (mX7_mask r4).bind fun r8 => ck (inb x4 256) <| (rec M x1 x2 x3 ((M.1 (x1 + 1) x2.toNatClampNeg) &&& r8) r4 (M.1 37 x4.toNatClampNeg)).bind fun r10 => some (r10.1, r10.2)) else (some ((-1 : Int32), M))) else (some ((-1 : Int32), M))))
set_option maxHeartbeats 4000000 in
set_option maxRecDepth 100000 in
theorem c_X5_growSide (l : Launch) (D : va_G) (cy : gCy) (ad : Nat → Nat) (rec : gMem → Nat → Int32 → Int32 → Int32 → Int32 → Int32 → Option (Int32 × gMem)) (rf rn : Nat) (hrec : ∀ (M : gMem) (x1 : Nat) (hL1 : isL x1) (x2 : Int32) (x3 : Int32) (x4 : Int32) (x5 : Int32) (x6 : Int32) (r0 : (Int32 × gMem)), rec M x1 x2 x3 x4 x5 x6 = some r0 → Met l yX5_grow wsX5_grow (gR rf rn) (va_Pc [.ref (ad 34), .ref (ad x1), .int x2, .int x3, .int x4, .int x5, .int x6] (gP shC D cy ad M)) (gQi shC D cy ad r0.1 r0.2) 0 0 (gA shC ad)) (M : gMem) (x1 : Nat) (hL1 : isL x1) (x2 : Int32) (x3 : Int32) (x4 : Int32) (r0 : (Int32 × gMem)) (hm : mX5_growSide rec M x1 x2 x3 x4 = some r0) : Met l yX5_growSide wsX5_growSide (gR (rf + 2) (rn + 44)) (va_Pc [.ref (ad 34), .ref (ad x1), .int x2, .int x3, .int x4] (gP shC D cy ad M)) (gQi shC D cy ad r0.1 r0.2) 0 0 (gA shC ad) := by
  refine gEnter (cc := cX5_growSide) (maxL := 6) (ret := (some .int)) (by decide) rfl (Nat.le_of_ble_eq_true rfl) ?_
  intro p e s m below meth c ls S hr hlk C hl
  have S : CallFix p m c cX5_growSide 6 s _ wsX5_growSide RX5 := S
  have hl : lv_has ls 6 [(0, .ref (ad 34)), (1, .ref (ad x1)), (2, .int x2), (3, .int x3), (4, .int x4)] := hl
  rw [mX5_growSide] at hm
  refine lv_iload_n S.1 S.2.1 dX5_growSide_0 rfl (lv_at hl 2 rfl) ?_
  refine lv_if_lt (tgt := 17) S.1 S.2.1 dX5_growSide_1 (by decide) (fun c1 => ?_) (fun c1 => ?_)
  · rw [if_pos c1] at hm
    refine lv_iconst (v := (-1 : Int32)) S.1 S.2.1 dX5_growSide_17 (by decide) ?_
    exact gReti S hr hlk C (pr1 hm) (pr2 hm) dX5_growSide_18
  · rw [if_neg c1] at hm
    refine lv_iload_n S.1 S.2.1 dX5_growSide_4 rfl (lv_at hl 2 rfl) ?_
    refine lv_iload_n S.1 S.2.1 dX5_growSide_5 rfl (lv_at hl 3 rfl) ?_
    refine lv_icmp_ge (tgt := 17) S.1 S.2.1 dX5_growSide_6 (by decide) (fun c2 => ?_) (fun c2 => ?_)
    · rw [if_pos c2] at hm
      refine lv_iconst (v := (-1 : Int32)) S.1 S.2.1 dX5_growSide_17 (by decide) ?_
      exact gReti S hr hlk C (pr1 hm) (pr2 hm) dX5_growSide_18
    · rw [if_neg c2] at hm
      refine lv_iload_n S.1 S.2.1 dX5_growSide_9 rfl (lv_at hl 3 rfl) ?_
      refine lv_aload_n S.1 S.2.1 dX5_growSide_10 rfl (lv_at hl 1 rfl) ?_
      refine g_get (k := x1) (ci := 2) (f := 4) (v := .int (M.1 x1 4))  S C kiX5_growSide_X2 kfX5_growSide_34 rfl (by decide) hL1.1 rfl rfl dX5_growSide_11 ?_
      refine lv_icmp_le (tgt := 19) S.1 S.2.1 dX5_growSide_14 (by decide) (fun c3 => ?_) (fun c3 => ?_)
      · rw [if_pos c3] at hm
        refine lv_aload_n S.1 S.2.1 dX5_growSide_19 rfl (lv_at hl 1 rfl) ?_
        refine lv_iload_n S.1 S.2.1 dX5_growSide_20 rfl (lv_at hl 2 rfl) ?_
        refine lv_iload_n S.1 S.2.1 dX5_growSide_21 rfl (lv_at hl 3 rfl) ?_
        refine lv_iconst (v := (1 : Int32)) S.1 S.2.1 dX5_growSide_22 (by decide) ?_
        refine lv_isub S.1 S.2.1 dX5_growSide_23 ?_
        obtain ⟨r4, hcr4, hm⟩ := bd_ok hm
        refine gC_i C (gRV (k := x1) (ci := 2) (r := (RX2, TX2, 5)) (As := [.int x2, .int (x3 - (1 : Int32))]) (rest := []) 2 S C (c_X2_commonBits l D cy ad M x1 hL1 x2 (x3 - (1 : Int32)) r4 hcr4) gX5_growSide_X2_commonBits rfl (by decide +kernel) (by omega) hL1.1 rfl rfl rfl hl.1 rfl (Nat.le_of_ble_eq_true rfl) dX5_growSide_24) (fun H locs C => ?_)
        refine lv_istore (lv' := [(5, .int r4), (0, .ref (ad 34)), (1, .ref (ad x1)), (2, .int x2), (3, .int x3), (4, .int x4)]) S.1 S.2.1 dX5_growSide_27 hl (by decide) rfl (fun ls hl => ?_)
        refine lv_iload S.1 S.2.1 dX5_growSide_29 (lv_at hl 0 rfl) ?_
        refine lv_aload_n S.1 S.2.1 dX5_growSide_31 rfl (lv_at hl 1 rfl) ?_
        refine g_get (k := 34) (ci := 4) (f := 1) (v := .ref (ad 36))  S C kiX5_growSide_X5 kfX5_growSide_15 rfl (by decide) shC_34 rfl rfl dX5_growSide_32 ?_
        refine lv_iload S.1 S.2.1 dX5_growSide_35 (lv_at hl 5 rfl) ?_
        obtain ⟨h5, hm⟩ := ck_ok hm
        refine g_iald S C (k := 36) shC_36 h5 dX5_growSide_37 ?_
        refine lv_icmp_gt (tgt := 43) S.1 S.2.1 dX5_growSide_38 (by decide) (fun c6 => ?_) (fun c6 => ?_)
        · rw [if_pos c6] at hm
          refine lv_aload_n S.1 S.2.1 dX5_growSide_43 rfl (lv_at hl 1 rfl) ?_
          refine lv_aload_n S.1 S.2.1 dX5_growSide_44 rfl (lv_at hl 2 rfl) ?_
          refine lv_iload_n S.1 S.2.1 dX5_growSide_45 rfl (lv_at hl 3 rfl) ?_
          refine lv_iload_n S.1 S.2.1 dX5_growSide_46 rfl (lv_at hl 4 rfl) ?_
          refine lv_aload_n S.1 S.2.1 dX5_growSide_47 rfl (lv_at hl 2 rfl) ?_
          refine g_get (k := x1) (ci := 2) (f := 0) (v := .ref (ad (x1 + 1)))  S C kiX5_growSide_X2 kfX5_growSide_64 rfl (by decide) hL1.1 rfl rfl dX5_growSide_48 ?_
          refine lv_iload_n S.1 S.2.1 dX5_growSide_51 rfl (lv_at hl 3 rfl) ?_
          obtain ⟨h7, hm⟩ := ck_ok hm
          refine g_iald S C (k := (x1 + 1)) (hL1).2.1 h7 dX5_growSide_52 ?_
          refine lv_iload S.1 S.2.1 dX5_growSide_53 (lv_at hl 0 rfl) ?_
          obtain ⟨r8, hcr8, hm⟩ := bd_ok hm
          refine gC_i C (gRSN (host := "PrefixLeader") (As := [.int r4]) (rest := [.int (M.1 (x1 + 1) x2.toNatClampNeg), .int x3, .int x2, .ref (ad x1), .ref (ad 34)]) 1 S C (c_X7_mask l D cy ad M r4 r8 hcr8) gX5_growSide_X7_mask_n65 rfl (by decide +kernel) knX5_growSide_X7_maski knX5_growSide_X7_masks (by decide +kernel) (by omega) rfl hl.1 rfl (Nat.le_of_ble_eq_true rfl) dX5_growSide_55) (fun H locs C => ?_)
          refine lv_iand S.1 S.2.1 dX5_growSide_58 ?_
          refine lv_iload S.1 S.2.1 dX5_growSide_59 (lv_at hl 0 rfl) ?_
          refine lv_aload_n S.1 S.2.1 dX5_growSide_61 rfl (lv_at hl 1 rfl) ?_
          refine g_get (k := 34) (ci := 4) (f := 2) (v := .ref (ad 37))  S C kiX5_growSide_X5 kfX5_growSide_18 rfl (by decide) shC_34 rfl rfl dX5_growSide_62 ?_
          refine lv_iload S.1 S.2.1 dX5_growSide_65 (lv_at hl 5 rfl) ?_
          obtain ⟨h9, hm⟩ := ck_ok hm
          refine g_iald S C (k := 37) shC_37 h9 dX5_growSide_67 ?_
          obtain ⟨r10, hcr10, hm⟩ := bd_ok hm
          refine gC_i C (gRV (k := 34) (ci := 4) (r := (RX5, TX5, 7)) (As := [.ref (ad x1), .int x2, .int x3, .int ((M.1 (x1 + 1) x2.toNatClampNeg) &&& r8), .int r4, .int (M.1 37 x4.toNatClampNeg)]) (rest := []) 6 S C (hrec M x1 hL1 x2 x3 ((M.1 (x1 + 1) x2.toNatClampNeg) &&& r8) r4 (M.1 37 x4.toNatClampNeg) r10 hcr10) gX5_growSide_X5_grow rfl (by decide +kernel) (by omega) shC_34 rfl rfl rfl hl.1 rfl (Nat.le_of_ble_eq_true rfl) dX5_growSide_68) (fun H locs C => ?_)
          exact gReti S hr hlk C (pr1 hm) (pr2 hm) dX5_growSide_71
        · rw [if_neg c6] at hm
          refine lv_iconst (v := (-1 : Int32)) S.1 S.2.1 dX5_growSide_41 (by decide) ?_
          exact gReti S hr hlk C (pr1 hm) (pr2 hm) dX5_growSide_42
      · rw [if_neg c3] at hm
        refine lv_iconst (v := (-1 : Int32)) S.1 S.2.1 dX5_growSide_17 (by decide) ?_
        exact gReti S hr hlk C (pr1 hm) (pr2 hm) dX5_growSide_18
def mX5_grow_113 (rec : gMem → Nat → Int32 → Int32 → Int32 → Int32 → Int32 → Option (Int32 × gMem)) (M : gMem) (x1 : Nat) (x3 : Int32) (x5 : Int32) (x7 : Int32) (x9 : Int32) (z0 : Int32) (z1 : Int32) : Option (Int32 × gMem) := ck (inb z1 256) <| nmd (sI M 37 z1.toNatClampNeg z0) fun M2 => (mX2_firstHigh M2 x1 x9 x3 x5).bind fun r3 => (mX5_growSide rec M2 x1 x9 r3 x7).bind fun r4 => ck (inb x7 256) <| nmd (sI r4.2 38 x7.toNatClampNeg r4.1) fun M6 => (mX5_growSide rec M6 x1 r3 x3 x7).bind fun r7 => ck (inb x7 256) <| nmd (sI r7.2 39 x7.toNatClampNeg r7.1) fun M9 => ck (inb x7 256) <| (mX5_setOfSide M9 x7 (M9.1 38 x7.toNatClampNeg)).bind fun r11 => ck (inb x7 256) <| (mX5_setOfSide M9 x7 (M9.1 39 x7.toNatClampNeg)).bind fun r13 => (mX5_both r11 r13).bind fun r14 => ck (inb x7 256) <| nmd (sI M9 40 x7.toNatClampNeg r14) fun M16 => some (x7, M16)
def mX5_grow_71 (rec : gMem → Nat → Int32 → Int32 → Int32 → Int32 → Int32 → Option (Int32 × gMem)) (M : gMem) (x1 : Nat) (x2 : Int32) (x3 : Int32) (x4 : Int32) (x5 : Int32) (x6 : Int32) (x7 : Int32) (x8 : Int32) (z0 : Int32) : Option (Int32 × gMem) := ck (inb x7 256) <| nmd (sI M 35 x7.toNatClampNeg x4) fun M2 => ck (inb x7 256) <| nmd (sI M2 36 x7.toNatClampNeg x5) fun M4 => if x8 = 0 then (mX5_grow_113 rec M4 x1 x3 x5 x7 z0 x6 x7) else (ck (inb x2 (lnOf x1)) <| mX5_grow_113 rec M4 x1 x3 x5 x7 z0 (M4.1 (x1 + 3) x2.toNatClampNeg) x7)
def mX5_grow_57 (rec : gMem → Nat → Int32 → Int32 → Int32 → Int32 → Int32 → Option (Int32 × gMem)) (M : gMem) (x1 : Nat) (x2 : Int32) (x3 : Int32) (x4 : Int32) (x5 : Int32) (x6 : Int32) (x7 : Int32) (z0 : Int32) : Option (Int32 × gMem) := if z0 = 0 then (mX5_grow_71 rec M x1 x2 x3 x4 x5 x6 x7 z0 x2) else (mX5_grow_71 rec M x1 x2 x3 x4 x5 x6 x7 z0 (x2 + (1 : Int32)))
def mX5_grow_b (rec : gMem → Nat → Int32 → Int32 → Int32 → Int32 → Int32 → Option (Int32 × gMem)) (M : gMem) (x1 : Nat) (x2 : Int32) (x3 : Int32) (x4 : Int32) (x5 : Int32) (x6 : Int32) : Option (Int32 × gMem) := if (256 : Int32) ≤ (M.1 34 6) then (some ((-1 : Int32), M)) else (if x5 ≤ (32 : Int32) then (nmd (M.1 34 6) fun y3 => nmd (sI M 34 6 ((M.1 34 6) + (1 : Int32))) fun M4 => if x3 ≤ x2 then (mX5_grow_57 rec M4 x1 x2 x3 x4 x5 x6 y3 (0 : Int32)) else ((mX2_isAt M4 x1 x2 x4 x5).bind fun r6 => if r6 = 0 then (mX5_grow_57 rec M4 x1 x2 x3 x4 x5 x6 y3 (0 : Int32)) else (mX5_grow_57 rec M4 x1 x2 x3 x4 x5 x6 y3 (1 : Int32)))) else (some ((-1 : Int32), M)))
set_option maxHeartbeats 4000000 in
set_option maxRecDepth 100000 in
theorem wX5_grow_113 {p : Program} {l : Launch} {e : Env} {s : State} {m : MethodId} {args : Array Value} {below : List Frame} {meth : Method} {c : Code} {D : va_G} {cy : gCy} {ad : Nat → Nat} {r0 : (Int32 × gMem)} (S : CallFix p m c cX5_grow 11 s args wsX5_grow RX5) (hr : meth.sig.returnType = (some .int)) (hlk : meth.locks = false) {rec : gMem → Nat → Int32 → Int32 → Int32 → Int32 → Int32 → Option (Int32 × gMem)} {rf rn : Nat} (hrec : ∀ (M : gMem) (x1 : Nat) (hL1 : isL x1) (x2 : Int32) (x3 : Int32) (x4 : Int32) (x5 : Int32) (x6 : Int32) (r0 : (Int32 × gMem)), rec M x1 x2 x3 x4 x5 x6 = some r0 → Met l yX5_grow wsX5_grow (gR rf rn) (va_Pc [.ref (ad 34), .ref (ad x1), .int x2, .int x3, .int x4, .int x5, .int x6] (gP shC D cy ad M)) (gQi shC D cy ad r0.1 r0.2) 0 0 (gA shC ad)) : ∀ (M : gMem) (H : Heap) (locs : List Loc), gW shC D cy ad s s.heap M H locs → ∀ (x1 : Nat) (hL1 : isL x1) (x3 : Int32) (x5 : Int32) (x7 : Int32) (x9 : Int32) (z0 : Int32) (z1 : Int32), ∀ (ls : Array Slot), lv_has ls 11 [(0, .ref (ad 34)), (1, .ref (ad x1)), (3, .int x3), (5, .int x5), (7, .int x7), (9, .int x9)] → mX5_grow_113 rec M x1 x3 x5 x7 x9 z0 z1 = some r0 → W p l e (gR (rf + 3) (rn + 69)) s m args below meth c H locs 0 0 (MQ below (gQi shC D cy ad r0.1 r0.2) args s 0 0 (gA shC ad)) (F0 m 113 ls [.int z0, .int z1, .ref (ad 37)]) := by
  intro M H locs C x1 hL1 x3 x5 x7 x9 z0 z1 ls hl hm
  rw [mX5_grow_113] at hm
  obtain ⟨h1, hm⟩ := ck_ok hm
  obtain ⟨M2, eM2, hm⟩ := nmd_ok hm
  refine g_iast S C (k := 37) shC_37 h1 dX5_grow_113 (fun H locs C => ?_)
  rw [← eM2] at C
  refine lv_aload_n S.1 S.2.1 dX5_grow_114 rfl (lv_at hl 1 rfl) ?_
  refine lv_iload S.1 S.2.1 dX5_grow_115 (lv_at hl 5 rfl) ?_
  refine lv_iload_n S.1 S.2.1 dX5_grow_117 rfl (lv_at hl 2 rfl) ?_
  refine lv_iload S.1 S.2.1 dX5_grow_118 (lv_at hl 3 rfl) ?_
  obtain ⟨r3, hcr3, hm⟩ := bd_ok hm
  refine gC_i C (gRV (k := x1) (ci := 2) (r := (RX2, TX2, 5)) (As := [.int x9, .int x3, .int x5]) (rest := []) 3 S C (c_X2_firstHigh l D cy ad M2 x1 hL1 x9 x3 x5 r3 hcr3) gX5_grow_X2_firstHigh rfl (by decide +kernel) (by omega) hL1.1 rfl rfl rfl hl.1 rfl (Nat.le_of_ble_eq_true rfl) dX5_grow_120) (fun H locs C => ?_)
  refine lv_istore (lv' := [(10, .int r3), (0, .ref (ad 34)), (1, .ref (ad x1)), (3, .int x3), (5, .int x5), (7, .int x7), (9, .int x9)]) S.1 S.2.1 dX5_grow_123 hl (by decide) rfl (fun ls hl => ?_)
  refine lv_aload_n S.1 S.2.1 dX5_grow_125 rfl (lv_at hl 1 rfl) ?_
  refine g_get (k := 34) (ci := 4) (f := 3) (v := .ref (ad 38))  S C kiX5_grow_X5 kfX5_grow_21 rfl (by decide) shC_34 rfl rfl dX5_grow_126 ?_
  refine lv_iload S.1 S.2.1 dX5_grow_129 (lv_at hl 5 rfl) ?_
  refine lv_aload_n S.1 S.2.1 dX5_grow_131 rfl (lv_at hl 1 rfl) ?_
  refine lv_aload_n S.1 S.2.1 dX5_grow_132 rfl (lv_at hl 2 rfl) ?_
  refine lv_iload S.1 S.2.1 dX5_grow_133 (lv_at hl 6 rfl) ?_
  refine lv_iload S.1 S.2.1 dX5_grow_135 (lv_at hl 0 rfl) ?_
  refine lv_iload S.1 S.2.1 dX5_grow_137 (lv_at hl 5 rfl) ?_
  obtain ⟨r4, hcr4, hm⟩ := bd_ok hm
  refine gC_i C (gRV (k := 34) (ci := 4) (r := (RX5, TX5, 7)) (As := [.ref (ad x1), .int x9, .int r3, .int x7]) (rest := [.int x7, .ref (ad 38)]) 4 S C (c_X5_growSide l D cy ad rec _ _ hrec M2 x1 hL1 x9 r3 x7 r4 hcr4) gX5_grow_X5_growSide rfl (by decide +kernel) (by omega) shC_34 rfl rfl rfl hl.1 rfl (Nat.le_of_ble_eq_true rfl) dX5_grow_139) (fun H locs C => ?_)
  obtain ⟨h5, hm⟩ := ck_ok hm
  obtain ⟨M6, eM6, hm⟩ := nmd_ok hm
  refine g_iast S C (k := 38) shC_38 h5 dX5_grow_142 (fun H locs C => ?_)
  rw [← eM6] at C
  refine lv_aload_n S.1 S.2.1 dX5_grow_143 rfl (lv_at hl 1 rfl) ?_
  refine g_get (k := 34) (ci := 4) (f := 4) (v := .ref (ad 39))  S C kiX5_grow_X5 kfX5_grow_24 rfl (by decide) shC_34 rfl rfl dX5_grow_144 ?_
  refine lv_iload S.1 S.2.1 dX5_grow_147 (lv_at hl 5 rfl) ?_
  refine lv_aload_n S.1 S.2.1 dX5_grow_149 rfl (lv_at hl 1 rfl) ?_
  refine lv_aload_n S.1 S.2.1 dX5_grow_150 rfl (lv_at hl 2 rfl) ?_
  refine lv_iload S.1 S.2.1 dX5_grow_151 (lv_at hl 0 rfl) ?_
  refine lv_iload_n S.1 S.2.1 dX5_grow_153 rfl (lv_at hl 3 rfl) ?_
  refine lv_iload S.1 S.2.1 dX5_grow_154 (lv_at hl 5 rfl) ?_
  obtain ⟨r7, hcr7, hm⟩ := bd_ok hm
  refine gC_i C (gRV (k := 34) (ci := 4) (r := (RX5, TX5, 7)) (As := [.ref (ad x1), .int r3, .int x3, .int x7]) (rest := [.int x7, .ref (ad 39)]) 4 S C (c_X5_growSide l D cy ad rec _ _ hrec M6 x1 hL1 r3 x3 x7 r7 hcr7) gX5_grow_X5_growSide rfl (by decide +kernel) (by omega) shC_34 rfl rfl rfl hl.1 rfl (Nat.le_of_ble_eq_true rfl) dX5_grow_156) (fun H locs C => ?_)
  obtain ⟨h8, hm⟩ := ck_ok hm
  obtain ⟨M9, eM9, hm⟩ := nmd_ok hm
  refine g_iast S C (k := 39) shC_39 h8 dX5_grow_159 (fun H locs C => ?_)
  rw [← eM9] at C
  refine lv_aload_n S.1 S.2.1 dX5_grow_160 rfl (lv_at hl 1 rfl) ?_
  refine g_get (k := 34) (ci := 4) (f := 5) (v := .ref (ad 40))  S C kiX5_grow_X5 kfX5_grow_27 rfl (by decide) shC_34 rfl rfl dX5_grow_161 ?_
  refine lv_iload S.1 S.2.1 dX5_grow_164 (lv_at hl 5 rfl) ?_
  refine lv_aload_n S.1 S.2.1 dX5_grow_166 rfl (lv_at hl 1 rfl) ?_
  refine lv_iload S.1 S.2.1 dX5_grow_167 (lv_at hl 5 rfl) ?_
  refine lv_aload_n S.1 S.2.1 dX5_grow_169 rfl (lv_at hl 1 rfl) ?_
  refine g_get (k := 34) (ci := 4) (f := 3) (v := .ref (ad 38))  S C kiX5_grow_X5 kfX5_grow_21 rfl (by decide) shC_34 rfl rfl dX5_grow_170 ?_
  refine lv_iload S.1 S.2.1 dX5_grow_173 (lv_at hl 5 rfl) ?_
  obtain ⟨h10, hm⟩ := ck_ok hm
  refine g_iald S C (k := 38) shC_38 h10 dX5_grow_175 ?_
  obtain ⟨r11, hcr11, hm⟩ := bd_ok hm
  refine gC_i C (gRV (k := 34) (ci := 4) (r := (RX5, TX5, 7)) (As := [.int x7, .int (M9.1 38 x7.toNatClampNeg)]) (rest := [.int x7, .ref (ad 40)]) 2 S C (c_X5_setOfSide l D cy ad M9 x7 (M9.1 38 x7.toNatClampNeg) r11 hcr11) gX5_grow_X5_setOfSide rfl (by decide +kernel) (by omega) shC_34 rfl rfl rfl hl.1 rfl (Nat.le_of_ble_eq_true rfl) dX5_grow_176) (fun H locs C => ?_)
  refine lv_aload_n S.1 S.2.1 dX5_grow_179 rfl (lv_at hl 1 rfl) ?_
  refine lv_iload S.1 S.2.1 dX5_grow_180 (lv_at hl 5 rfl) ?_
  refine lv_aload_n S.1 S.2.1 dX5_grow_182 rfl (lv_at hl 1 rfl) ?_
  refine g_get (k := 34) (ci := 4) (f := 4) (v := .ref (ad 39))  S C kiX5_grow_X5 kfX5_grow_24 rfl (by decide) shC_34 rfl rfl dX5_grow_183 ?_
  refine lv_iload S.1 S.2.1 dX5_grow_186 (lv_at hl 5 rfl) ?_
  obtain ⟨h12, hm⟩ := ck_ok hm
  refine g_iald S C (k := 39) shC_39 h12 dX5_grow_188 ?_
  obtain ⟨r13, hcr13, hm⟩ := bd_ok hm
  refine gC_i C (gRV (k := 34) (ci := 4) (r := (RX5, TX5, 7)) (As := [.int x7, .int (M9.1 39 x7.toNatClampNeg)]) (rest := [.int r11, .int x7, .ref (ad 40)]) 2 S C (c_X5_setOfSide l D cy ad M9 x7 (M9.1 39 x7.toNatClampNeg) r13 hcr13) gX5_grow_X5_setOfSide rfl (by decide +kernel) (by omega) shC_34 rfl rfl rfl hl.1 rfl (Nat.le_of_ble_eq_true rfl) dX5_grow_189) (fun H locs C => ?_)
  obtain ⟨r14, hcr14, hm⟩ := bd_ok hm
  refine gC_i C (gRS (As := [.int r11, .int r13]) (rest := [.int x7, .ref (ad 40)]) 2 S C (c_X5_both l D cy ad M9 r11 r13 r14 hcr14) gX5_grow_X5_both rfl (by decide +kernel) (by omega) rfl hl.1 rfl (Nat.le_of_ble_eq_true rfl) dX5_grow_192) (fun H locs C => ?_)
  obtain ⟨h15, hm⟩ := ck_ok hm
  obtain ⟨M16, eM16, hm⟩ := nmd_ok hm
  refine g_iast S C (k := 40) shC_40 h15 dX5_grow_195 (fun H locs C => ?_)
  rw [← eM16] at C
  refine lv_iload S.1 S.2.1 dX5_grow_196 (lv_at hl 5 rfl) ?_
  exact gReti S hr hlk C (pr1 hm) (pr2 hm) dX5_grow_198
set_option maxHeartbeats 4000000 in
set_option maxRecDepth 100000 in
theorem wX5_grow_71 {p : Program} {l : Launch} {e : Env} {s : State} {m : MethodId} {args : Array Value} {below : List Frame} {meth : Method} {c : Code} {D : va_G} {cy : gCy} {ad : Nat → Nat} {r0 : (Int32 × gMem)} (S : CallFix p m c cX5_grow 11 s args wsX5_grow RX5) (hr : meth.sig.returnType = (some .int)) (hlk : meth.locks = false) {rec : gMem → Nat → Int32 → Int32 → Int32 → Int32 → Int32 → Option (Int32 × gMem)} {rf rn : Nat} (hrec : ∀ (M : gMem) (x1 : Nat) (hL1 : isL x1) (x2 : Int32) (x3 : Int32) (x4 : Int32) (x5 : Int32) (x6 : Int32) (r0 : (Int32 × gMem)), rec M x1 x2 x3 x4 x5 x6 = some r0 → Met l yX5_grow wsX5_grow (gR rf rn) (va_Pc [.ref (ad 34), .ref (ad x1), .int x2, .int x3, .int x4, .int x5, .int x6] (gP shC D cy ad M)) (gQi shC D cy ad r0.1 r0.2) 0 0 (gA shC ad)) : ∀ (M : gMem) (H : Heap) (locs : List Loc), gW shC D cy ad s s.heap M H locs → ∀ (x1 : Nat) (hL1 : isL x1) (x2 : Int32) (x3 : Int32) (x4 : Int32) (x5 : Int32) (x6 : Int32) (x7 : Int32) (x8 : Int32) (z0 : Int32), ∀ (ls : Array Slot), lv_has ls 11 [(0, .ref (ad 34)), (1, .ref (ad x1)), (2, .int x2), (3, .int x3), (4, .int x4), (5, .int x5), (6, .int x6), (7, .int x7), (8, .int x8)] → mX5_grow_71 rec M x1 x2 x3 x4 x5 x6 x7 x8 z0 = some r0 → W p l e (gR (rf + 3) (rn + 69)) s m args below meth c H locs 0 0 (MQ below (gQi shC D cy ad r0.1 r0.2) args s 0 0 (gA shC ad)) (F0 m 71 ls [.int z0]) := by
  intro M H locs C x1 hL1 x2 x3 x4 x5 x6 x7 x8 z0 ls hl hm
  rw [mX5_grow_71] at hm
  refine lv_istore (lv' := [(9, .int z0), (0, .ref (ad 34)), (1, .ref (ad x1)), (2, .int x2), (3, .int x3), (4, .int x4), (5, .int x5), (6, .int x6), (7, .int x7), (8, .int x8)]) S.1 S.2.1 dX5_grow_71 hl (by decide) rfl (fun ls hl => ?_)
  refine lv_aload_n S.1 S.2.1 dX5_grow_73 rfl (lv_at hl 1 rfl) ?_
  refine g_get (k := 34) (ci := 4) (f := 0) (v := .ref (ad 35))  S C kiX5_grow_X5 kfX5_grow_11 rfl (by decide) shC_34 rfl rfl dX5_grow_74 ?_
  refine lv_iload S.1 S.2.1 dX5_grow_77 (lv_at hl 8 rfl) ?_
  refine lv_iload S.1 S.2.1 dX5_grow_79 (lv_at hl 5 rfl) ?_
  obtain ⟨h1, hm⟩ := ck_ok hm
  obtain ⟨M2, eM2, hm⟩ := nmd_ok hm
  refine g_iast S C (k := 35) shC_35 h1 dX5_grow_81 (fun H locs C => ?_)
  rw [← eM2] at C
  refine lv_aload_n S.1 S.2.1 dX5_grow_82 rfl (lv_at hl 1 rfl) ?_
  refine g_get (k := 34) (ci := 4) (f := 1) (v := .ref (ad 36))  S C kiX5_grow_X5 kfX5_grow_15 rfl (by decide) shC_34 rfl rfl dX5_grow_83 ?_
  refine lv_iload S.1 S.2.1 dX5_grow_86 (lv_at hl 8 rfl) ?_
  refine lv_iload S.1 S.2.1 dX5_grow_88 (lv_at hl 6 rfl) ?_
  obtain ⟨h3, hm⟩ := ck_ok hm
  obtain ⟨M4, eM4, hm⟩ := nmd_ok hm
  refine g_iast S C (k := 36) shC_36 h3 dX5_grow_90 (fun H locs C => ?_)
  rw [← eM4] at C
  refine lv_aload_n S.1 S.2.1 dX5_grow_91 rfl (lv_at hl 1 rfl) ?_
  refine g_get (k := 34) (ci := 4) (f := 2) (v := .ref (ad 37))  S C kiX5_grow_X5 kfX5_grow_18 rfl (by decide) shC_34 rfl rfl dX5_grow_92 ?_
  refine lv_iload S.1 S.2.1 dX5_grow_95 (lv_at hl 8 rfl) ?_
  refine lv_iload S.1 S.2.1 dX5_grow_97 (lv_at hl 9 rfl) ?_
  refine lv_if_eq (tgt := 111) S.1 S.2.1 dX5_grow_99 (by decide) (fun c5 => ?_) (fun c5 => ?_)
  · rw [if_pos c5] at hm
    refine lv_iload S.1 S.2.1 dX5_grow_111 (lv_at hl 7 rfl) ?_
    exact wX5_grow_113 S hr hlk hrec M4 _ _ C x1 hL1 x3 x5 x7 z0 x6 x7 ls (lv_sub hl [1, 2, 4, 6, 8, 0] rfl) hm
  · rw [if_neg c5] at hm
    refine lv_aload_n S.1 S.2.1 dX5_grow_102 rfl (lv_at hl 2 rfl) ?_
    refine g_get (k := x1) (ci := 2) (f := 2) (v := .ref (ad (x1 + 3)))  S C kiX5_grow_X2 kfX5_grow_45 rfl (by decide) hL1.1 rfl rfl dX5_grow_103 ?_
    refine lv_iload_n S.1 S.2.1 dX5_grow_106 rfl (lv_at hl 3 rfl) ?_
    obtain ⟨h6, hm⟩ := ck_ok hm
    refine g_iald S C (k := (x1 + 3)) (hL1).2.2.2 h6 dX5_grow_107 ?_
    refine lv_goto (tgt := 113) S.1 S.2.1 dX5_grow_108 (by decide) ?_
    exact wX5_grow_113 S hr hlk hrec M4 _ _ C x1 hL1 x3 x5 x7 z0 (M4.1 (x1 + 3) x2.toNatClampNeg) x7 ls (lv_sub hl [1, 2, 4, 6, 8, 0] rfl) hm
set_option maxHeartbeats 4000000 in
set_option maxRecDepth 100000 in
theorem wX5_grow_57 {p : Program} {l : Launch} {e : Env} {s : State} {m : MethodId} {args : Array Value} {below : List Frame} {meth : Method} {c : Code} {D : va_G} {cy : gCy} {ad : Nat → Nat} {r0 : (Int32 × gMem)} (S : CallFix p m c cX5_grow 11 s args wsX5_grow RX5) (hr : meth.sig.returnType = (some .int)) (hlk : meth.locks = false) {rec : gMem → Nat → Int32 → Int32 → Int32 → Int32 → Int32 → Option (Int32 × gMem)} {rf rn : Nat} (hrec : ∀ (M : gMem) (x1 : Nat) (hL1 : isL x1) (x2 : Int32) (x3 : Int32) (x4 : Int32) (x5 : Int32) (x6 : Int32) (r0 : (Int32 × gMem)), rec M x1 x2 x3 x4 x5 x6 = some r0 → Met l yX5_grow wsX5_grow (gR rf rn) (va_Pc [.ref (ad 34), .ref (ad x1), .int x2, .int x3, .int x4, .int x5, .int x6] (gP shC D cy ad M)) (gQi shC D cy ad r0.1 r0.2) 0 0 (gA shC ad)) : ∀ (M : gMem) (H : Heap) (locs : List Loc), gW shC D cy ad s s.heap M H locs → ∀ (x1 : Nat) (hL1 : isL x1) (x2 : Int32) (x3 : Int32) (x4 : Int32) (x5 : Int32) (x6 : Int32) (x7 : Int32) (z0 : Int32), ∀ (ls : Array Slot), lv_has ls 11 [(0, .ref (ad 34)), (1, .ref (ad x1)), (2, .int x2), (3, .int x3), (4, .int x4), (5, .int x5), (6, .int x6), (7, .int x7)] → mX5_grow_57 rec M x1 x2 x3 x4 x5 x6 x7 z0 = some r0 → W p l e (gR (rf + 3) (rn + 69)) s m args below meth c H locs 0 0 (MQ below (gQi shC D cy ad r0.1 r0.2) args s 0 0 (gA shC ad)) (F0 m 57 ls [.int z0]) := by
  intro M H locs C x1 hL1 x2 x3 x4 x5 x6 x7 z0 ls hl hm
  rw [mX5_grow_57] at hm
  refine lv_istore (lv' := [(8, .int z0), (0, .ref (ad 34)), (1, .ref (ad x1)), (2, .int x2), (3, .int x3), (4, .int x4), (5, .int x5), (6, .int x6), (7, .int x7)]) S.1 S.2.1 dX5_grow_57 hl (by decide) rfl (fun ls hl => ?_)
  refine lv_iload S.1 S.2.1 dX5_grow_59 (lv_at hl 0 rfl) ?_
  refine lv_if_eq (tgt := 70) S.1 S.2.1 dX5_grow_61 (by decide) (fun c1 => ?_) (fun c1 => ?_)
  · rw [if_pos c1] at hm
    refine lv_iload_n S.1 S.2.1 dX5_grow_70 rfl (lv_at hl 3 rfl) ?_
    exact wX5_grow_71 S hr hlk hrec M _ _ C x1 hL1 x2 x3 x4 x5 x6 x7 z0 x2 ls (lv_sub hl [1, 2, 3, 4, 5, 6, 7, 8, 0] rfl) hm
  · rw [if_neg c1] at hm
    refine lv_iload_n S.1 S.2.1 dX5_grow_64 rfl (lv_at hl 3 rfl) ?_
    refine lv_iconst (v := (1 : Int32)) S.1 S.2.1 dX5_grow_65 (by decide) ?_
    refine lv_iadd S.1 S.2.1 dX5_grow_66 ?_
    refine lv_goto (tgt := 71) S.1 S.2.1 dX5_grow_67 (by decide) ?_
    exact wX5_grow_71 S hr hlk hrec M _ _ C x1 hL1 x2 x3 x4 x5 x6 x7 z0 (x2 + (1 : Int32)) ls (lv_sub hl [1, 2, 3, 4, 5, 6, 7, 8, 0] rfl) hm
set_option maxHeartbeats 4000000 in
set_option maxRecDepth 100000 in
theorem c_X5_grow_b (l : Launch) (D : va_G) (cy : gCy) (ad : Nat → Nat) (rec : gMem → Nat → Int32 → Int32 → Int32 → Int32 → Int32 → Option (Int32 × gMem)) (rf rn : Nat) (hrec : ∀ (M : gMem) (x1 : Nat) (hL1 : isL x1) (x2 : Int32) (x3 : Int32) (x4 : Int32) (x5 : Int32) (x6 : Int32) (r0 : (Int32 × gMem)), rec M x1 x2 x3 x4 x5 x6 = some r0 → Met l yX5_grow wsX5_grow (gR rf rn) (va_Pc [.ref (ad 34), .ref (ad x1), .int x2, .int x3, .int x4, .int x5, .int x6] (gP shC D cy ad M)) (gQi shC D cy ad r0.1 r0.2) 0 0 (gA shC ad)) (M : gMem) (x1 : Nat) (hL1 : isL x1) (x2 : Int32) (x3 : Int32) (x4 : Int32) (x5 : Int32) (x6 : Int32) (r0 : (Int32 × gMem)) (hm : mX5_grow_b rec M x1 x2 x3 x4 x5 x6 = some r0) : Met l yX5_grow wsX5_grow (gR (rf + 3) (rn + 69)) (va_Pc [.ref (ad 34), .ref (ad x1), .int x2, .int x3, .int x4, .int x5, .int x6] (gP shC D cy ad M)) (gQi shC D cy ad r0.1 r0.2) 0 0 (gA shC ad) := by
  refine gEnter (cc := cX5_grow) (maxL := 11) (ret := (some .int)) (by decide) rfl (Nat.le_of_ble_eq_true rfl) ?_
  intro p e s m below meth c ls S hr hlk C hl
  have S : CallFix p m c cX5_grow 11 s _ wsX5_grow RX5 := S
  have hl : lv_has ls 11 [(0, .ref (ad 34)), (1, .ref (ad x1)), (2, .int x2), (3, .int x3), (4, .int x4), (5, .int x5), (6, .int x6)] := hl
  rw [mX5_grow_b] at hm
  refine lv_aload_n S.1 S.2.1 dX5_grow_0 rfl (lv_at hl 0 rfl) ?_
  refine g_get (k := 34) (ci := 4) (f := 6) (v := .int (M.1 34 6))  S C kiX5_grow_X5 kfX5_grow_30 rfl (by decide) shC_34 rfl rfl dX5_grow_1 ?_
  refine lv_sipush (v := (256 : Int32)) S.1 S.2.1 dX5_grow_4 (by decide) ?_
  refine lv_icmp_ge (tgt := 17) S.1 S.2.1 dX5_grow_7 (by decide) (fun c1 => ?_) (fun c1 => ?_)
  · rw [if_pos c1] at hm
    refine lv_iconst (v := (-1 : Int32)) S.1 S.2.1 dX5_grow_17 (by decide) ?_
    exact gReti S hr hlk C (pr1 hm) (pr2 hm) dX5_grow_18
  · rw [if_neg c1] at hm
    refine lv_iload S.1 S.2.1 dX5_grow_10 (lv_at hl 5 rfl) ?_
    refine lv_bipush (v := (32 : Int32)) S.1 S.2.1 dX5_grow_12 (by decide) ?_
    refine lv_icmp_le (tgt := 19) S.1 S.2.1 dX5_grow_14 (by decide) (fun c2 => ?_) (fun c2 => ?_)
    · rw [if_pos c2] at hm
      refine lv_aload_n S.1 S.2.1 dX5_grow_19 rfl (lv_at hl 0 rfl) ?_
      refine g_get (k := 34) (ci := 4) (f := 6) (v := .int (M.1 34 6))  S C kiX5_grow_X5 kfX5_grow_30 rfl (by decide) shC_34 rfl rfl dX5_grow_20 ?_
      obtain ⟨y3, ey3, hm⟩ := nmd_ok hm
      refine gNmI ey3 ?_
      refine lv_istore (lv' := [(7, .int y3), (0, .ref (ad 34)), (1, .ref (ad x1)), (2, .int x2), (3, .int x3), (4, .int x4), (5, .int x5), (6, .int x6)]) S.1 S.2.1 dX5_grow_23 hl (by decide) rfl (fun ls hl => ?_)
      refine lv_aload_n S.1 S.2.1 dX5_grow_25 rfl (lv_at hl 1 rfl) ?_
      refine lv_dup S.1 S.2.1 dX5_grow_26 rfl ?_
      refine g_get (k := 34) (ci := 4) (f := 6) (v := .int (M.1 34 6))  S C kiX5_grow_X5 kfX5_grow_30 rfl (by decide) shC_34 rfl rfl dX5_grow_27 ?_
      refine lv_iconst (v := (1 : Int32)) S.1 S.2.1 dX5_grow_30 (by decide) ?_
      refine lv_iadd S.1 S.2.1 dX5_grow_31 ?_
      obtain ⟨M4, eM4, hm⟩ := nmd_ok hm
      refine g_put (M' := (sI M 34 6 ((M.1 34 6) + (1 : Int32)))) (k := 34) (ci := 4) (f := 6) (v := .int ((M.1 34 6) + (1 : Int32))) (ty := .int) S C kiX5_grow_X5 tyX5 tyX5_ok nmX5 kfX5_grow_30 rfl (by decide) rfl (by decide +kernel) rfl rfl shC_34 rfl (Nat.le_of_ble_eq_true rfl) (by rw [sI_at]; rfl) sI_off dX5_grow_32 (fun H locs C => ?_)
      rw [← eM4] at C
      refine lv_iload_n S.1 S.2.1 dX5_grow_35 rfl (lv_at hl 3 rfl) ?_
      refine lv_iload_n S.1 S.2.1 dX5_grow_36 rfl (lv_at hl 4 rfl) ?_
      refine lv_icmp_ge (tgt := 56) S.1 S.2.1 dX5_grow_37 (by decide) (fun c5 => ?_) (fun c5 => ?_)
      · rw [if_pos c5] at hm
        refine lv_iconst (v := (0 : Int32)) S.1 S.2.1 dX5_grow_56 (by decide) ?_
        exact wX5_grow_57 S hr hlk hrec M4 _ _ C x1 hL1 x2 x3 x4 x5 x6 y3 (0 : Int32) ls (lv_sub hl [1, 2, 3, 4, 5, 6, 7, 0] rfl) hm
      · rw [if_neg c5] at hm
        refine lv_aload_n S.1 S.2.1 dX5_grow_40 rfl (lv_at hl 2 rfl) ?_
        refine lv_iload_n S.1 S.2.1 dX5_grow_41 rfl (lv_at hl 3 rfl) ?_
        refine lv_iload S.1 S.2.1 dX5_grow_42 (lv_at hl 5 rfl) ?_
        refine lv_iload S.1 S.2.1 dX5_grow_44 (lv_at hl 6 rfl) ?_
        obtain ⟨r6, hcr6, hm⟩ := bd_ok hm
        refine gC_i C (gRV (k := x1) (ci := 2) (r := (RX2, TX2, 5)) (As := [.int x2, .int x4, .int x5]) (rest := []) 3 S C (c_X2_isAt l D cy ad M4 x1 hL1 x2 x4 x5 r6 hcr6) gX5_grow_X2_isAt rfl (by decide +kernel) (by omega) hL1.1 rfl rfl rfl hl.1 rfl (Nat.le_of_ble_eq_true rfl) dX5_grow_46) (fun H locs C => ?_)
        refine lv_if_eq (tgt := 56) S.1 S.2.1 dX5_grow_49 (by decide) (fun c7 => ?_) (fun c7 => ?_)
        · rw [if_pos c7] at hm
          refine lv_iconst (v := (0 : Int32)) S.1 S.2.1 dX5_grow_56 (by decide) ?_
          exact wX5_grow_57 S hr hlk hrec M4 _ _ C x1 hL1 x2 x3 x4 x5 x6 y3 (0 : Int32) ls (lv_sub hl [1, 2, 3, 4, 5, 6, 7, 0] rfl) hm
        · rw [if_neg c7] at hm
          refine lv_iconst (v := (1 : Int32)) S.1 S.2.1 dX5_grow_52 (by decide) ?_
          refine lv_goto (tgt := 57) S.1 S.2.1 dX5_grow_53 (by decide) ?_
          exact wX5_grow_57 S hr hlk hrec M4 _ _ C x1 hL1 x2 x3 x4 x5 x6 y3 (1 : Int32) ls (lv_sub hl [1, 2, 3, 4, 5, 6, 7, 0] rfl) hm
    · rw [if_neg c2] at hm
      refine lv_iconst (v := (-1 : Int32)) S.1 S.2.1 dX5_grow_17 (by decide) ?_
      exact gReti S hr hlk C (pr1 hm) (pr2 hm) dX5_grow_18
def mX5_grow : Nat → gMem → Nat → Int32 → Int32 → Int32 → Int32 → Int32 → Option (Int32 × gMem)
  | 0, _, _, _, _, _, _, _ => none
  | d + 1, M, x1, x2, x3, x4, x5, x6 => mX5_grow_b (mX5_grow d) M x1 x2 x3 x4 x5 x6
set_option maxHeartbeats 4000000 in
set_option maxRecDepth 100000 in
theorem c_X5_grow (l : Launch) (D : va_G) (cy : gCy) (ad : Nat → Nat) : ∀ (d : Nat) (M : gMem) (x1 : Nat) (hL1 : isL x1) (x2 : Int32) (x3 : Int32) (x4 : Int32) (x5 : Int32) (x6 : Int32) (r0 : (Int32 × gMem)), mX5_grow d M x1 x2 x3 x4 x5 x6 = some r0 → Met l yX5_grow wsX5_grow (gR (d * 3) (d * 69)) (va_Pc [.ref (ad 34), .ref (ad x1), .int x2, .int x3, .int x4, .int x5, .int x6] (gP shC D cy ad M)) (gQi shC D cy ad r0.1 r0.2) 0 0 (gA shC ad) := by
  intro d
  induction d with
  | zero => intro M x1 hL1 x2 x3 x4 x5 x6 r0 hm; exact absurd hm (by simp [mX5_grow])
  | succ d ih =>
    intro M x1 hL1 x2 x3 x4 x5 x6 r0 hm
    rw [mX5_grow] at hm
    rw [Nat.succ_mul, Nat.succ_mul]
    exact c_X5_grow_b l D cy ad (mX5_grow d) _ _ (fun M x1 hL1 x2 x3 x4 x5 x6 r0 hm => ih M x1 hL1 x2 x3 x4 x5 x6 r0 hm) M x1 hL1 x2 x3 x4 x5 x6 r0 hm
def mX5_plantWhole (M : gMem) (x1 : Nat) : Option gMem := nmd (sI M 34 6 (0 : Int32)) fun M1 => (mX5_grow 40 M1 x1 (0 : Int32) (M1.1 x1 4) (0 : Int32) (0 : Int32) (16 : Int32)).bind fun r2 => some r2.2
set_option maxHeartbeats 4000000 in
set_option maxRecDepth 100000 in
theorem c_X5_plantWhole (l : Launch) (D : va_G) (cy : gCy) (ad : Nat → Nat) (M : gMem) (x1 : Nat) (hL1 : isL x1) (r0 : gMem) (hm : mX5_plantWhole M x1 = some r0) : Met l yX5_plantWhole wsX5_plantWhole (gR 121 2790) (va_Pc [.ref (ad 34), .ref (ad x1)] (gP shC D cy ad M)) (gQv shC D cy ad r0) 0 0 (gA shC ad) := by
  refine gEnter (cc := cX5_plantWhole) (maxL := 2) (ret := none) (by decide) rfl (Nat.le_of_ble_eq_true rfl) ?_
  intro p e s m below meth c ls S hr hlk C hl
  have S : CallFix p m c cX5_plantWhole 2 s _ wsX5_plantWhole RX5 := S
  have hl : lv_has ls 2 [(0, .ref (ad 34)), (1, .ref (ad x1))] := hl
  rw [mX5_plantWhole] at hm
  refine lv_aload_n S.1 S.2.1 dX5_plantWhole_0 rfl (lv_at hl 0 rfl) ?_
  refine lv_iconst (v := (0 : Int32)) S.1 S.2.1 dX5_plantWhole_1 (by decide) ?_
  obtain ⟨M1, eM1, hm⟩ := nmd_ok hm
  refine g_put (M' := (sI M 34 6 (0 : Int32))) (k := 34) (ci := 4) (f := 6) (v := .int (0 : Int32)) (ty := .int) S C kiX5_plantWhole_X5 tyX5 tyX5_ok nmX5 kfX5_plantWhole_30 rfl (by decide) rfl (by decide +kernel) rfl rfl shC_34 rfl (Nat.le_of_ble_eq_true rfl) (by rw [sI_at]; rfl) sI_off dX5_plantWhole_2 (fun H locs C => ?_)
  rw [← eM1] at C
  refine lv_aload_n S.1 S.2.1 dX5_plantWhole_5 rfl (lv_at hl 0 rfl) ?_
  refine lv_aload_n S.1 S.2.1 dX5_plantWhole_6 rfl (lv_at hl 1 rfl) ?_
  refine lv_iconst (v := (0 : Int32)) S.1 S.2.1 dX5_plantWhole_7 (by decide) ?_
  refine lv_aload_n S.1 S.2.1 dX5_plantWhole_8 rfl (lv_at hl 1 rfl) ?_
  refine g_get (k := x1) (ci := 2) (f := 4) (v := .int (M1.1 x1 4))  S C kiX5_plantWhole_X2 kfX5_plantWhole_34 rfl (by decide) hL1.1 rfl rfl dX5_plantWhole_9 ?_
  refine lv_iconst (v := (0 : Int32)) S.1 S.2.1 dX5_plantWhole_12 (by decide) ?_
  refine lv_iconst (v := (0 : Int32)) S.1 S.2.1 dX5_plantWhole_13 (by decide) ?_
  refine lv_bipush (v := (16 : Int32)) S.1 S.2.1 dX5_plantWhole_14 (by decide) ?_
  obtain ⟨r2, hcr2, hm⟩ := bd_ok hm
  refine gC_i C (gRV (k := 34) (ci := 4) (r := (RX5, TX5, 7)) (As := [.ref (ad x1), .int (0 : Int32), .int (M1.1 x1 4), .int (0 : Int32), .int (0 : Int32), .int (16 : Int32)]) (rest := []) 6 S C (c_X5_grow l D cy ad 40 M1 x1 hL1 (0 : Int32) (M1.1 x1 4) (0 : Int32) (0 : Int32) (16 : Int32) r2 hcr2) gX5_plantWhole_X5_grow rfl (by decide +kernel) (by decide) shC_34 rfl rfl rfl hl.1 rfl (Nat.le_of_ble_eq_true rfl) dX5_plantWhole_16) (fun H locs C => ?_)
  refine lv_pop S.1 S.2.1 dX5_plantWhole_19 rfl ?_
  exact gRetv S hr hlk C (Option.some.inj hm) dX5_plantWhole_20
def mX5_plant (M : gMem) (x1 : Nat) (x2 : Int32) (x3 : Int32) (x4 : Int32) (x5 : Int32) (x6 : Int32) : Option gMem := nmd (sI M 34 6 (0 : Int32)) fun M1 => (mX5_grow 40 M1 x1 x2 x3 x4 x5 x6).bind fun r2 => some r2.2
set_option maxHeartbeats 4000000 in
set_option maxRecDepth 100000 in
theorem c_X5_plant (l : Launch) (D : va_G) (cy : gCy) (ad : Nat → Nat) (M : gMem) (x1 : Nat) (hL1 : isL x1) (x2 : Int32) (x3 : Int32) (x4 : Int32) (x5 : Int32) (x6 : Int32) (r0 : gMem) (hm : mX5_plant M x1 x2 x3 x4 x5 x6 = some r0) : Met l yX5_plant wsX5_plant (gR 121 2790) (va_Pc [.ref (ad 34), .ref (ad x1), .int x2, .int x3, .int x4, .int x5, .int x6] (gP shC D cy ad M)) (gQv shC D cy ad r0) 0 0 (gA shC ad) := by
  refine gEnter (cc := cX5_plant) (maxL := 7) (ret := none) (by decide) rfl (Nat.le_of_ble_eq_true rfl) ?_
  intro p e s m below meth c ls S hr hlk C hl
  have S : CallFix p m c cX5_plant 7 s _ wsX5_plant RX5 := S
  have hl : lv_has ls 7 [(0, .ref (ad 34)), (1, .ref (ad x1)), (2, .int x2), (3, .int x3), (4, .int x4), (5, .int x5), (6, .int x6)] := hl
  rw [mX5_plant] at hm
  refine lv_aload_n S.1 S.2.1 dX5_plant_0 rfl (lv_at hl 0 rfl) ?_
  refine lv_iconst (v := (0 : Int32)) S.1 S.2.1 dX5_plant_1 (by decide) ?_
  obtain ⟨M1, eM1, hm⟩ := nmd_ok hm
  refine g_put (M' := (sI M 34 6 (0 : Int32))) (k := 34) (ci := 4) (f := 6) (v := .int (0 : Int32)) (ty := .int) S C kiX5_plant_X5 tyX5 tyX5_ok nmX5 kfX5_plant_30 rfl (by decide) rfl (by decide +kernel) rfl rfl shC_34 rfl (Nat.le_of_ble_eq_true rfl) (by rw [sI_at]; rfl) sI_off dX5_plant_2 (fun H locs C => ?_)
  rw [← eM1] at C
  refine lv_aload_n S.1 S.2.1 dX5_plant_5 rfl (lv_at hl 0 rfl) ?_
  refine lv_aload_n S.1 S.2.1 dX5_plant_6 rfl (lv_at hl 1 rfl) ?_
  refine lv_iload_n S.1 S.2.1 dX5_plant_7 rfl (lv_at hl 2 rfl) ?_
  refine lv_iload_n S.1 S.2.1 dX5_plant_8 rfl (lv_at hl 3 rfl) ?_
  refine lv_iload S.1 S.2.1 dX5_plant_9 (lv_at hl 4 rfl) ?_
  refine lv_iload S.1 S.2.1 dX5_plant_11 (lv_at hl 5 rfl) ?_
  refine lv_iload S.1 S.2.1 dX5_plant_13 (lv_at hl 6 rfl) ?_
  obtain ⟨r2, hcr2, hm⟩ := bd_ok hm
  refine gC_i C (gRV (k := 34) (ci := 4) (r := (RX5, TX5, 7)) (As := [.ref (ad x1), .int x2, .int x3, .int x4, .int x5, .int x6]) (rest := []) 6 S C (c_X5_grow l D cy ad 40 M1 x1 hL1 x2 x3 x4 x5 x6 r2 hcr2) gX5_plant_X5_grow rfl (by decide +kernel) (by decide) shC_34 rfl rfl rfl hl.1 rfl (Nat.le_of_ble_eq_true rfl) dX5_plant_15) (fun H locs C => ?_)
  refine lv_pop S.1 S.2.1 dX5_plant_18 rfl ?_
  exact gRetv S hr hlk C (Option.some.inj hm) dX5_plant_19
def mX5_setOfTop (M : gMem) : Option Int32 := if (M.1 34 6) ≤ 0 then (some (-1 : Int32)) else (ck (inb (0 : Int32) 256) <| some (M.1 40 (0 : Int32).toNatClampNeg))
set_option maxHeartbeats 4000000 in
set_option maxRecDepth 100000 in
theorem c_X5_setOfTop (l : Launch) (D : va_G) (cy : gCy) (ad : Nat → Nat) (M : gMem) (r0 : Int32) (hm : mX5_setOfTop M = some r0) : Met l yX5_setOfTop wsX5_setOfTop (gR 0 0) (va_Pc [.ref (ad 34)] (gP shC D cy ad M)) (gQi shC D cy ad r0 M) 0 0 (gA shC ad) := by
  refine gEnter (cc := cX5_setOfTop) (maxL := 1) (ret := (some .int)) (by decide) rfl (Nat.le_of_ble_eq_true rfl) ?_
  intro p e s m below meth c ls S hr hlk C hl
  have S : CallFix p m c cX5_setOfTop 1 s _ wsX5_setOfTop RX5 := S
  have hl : lv_has ls 1 [(0, .ref (ad 34))] := hl
  rw [mX5_setOfTop] at hm
  refine lv_aload_n S.1 S.2.1 dX5_setOfTop_0 rfl (lv_at hl 0 rfl) ?_
  refine g_get (k := 34) (ci := 4) (f := 6) (v := .int (M.1 34 6))  S C kiX5_setOfTop_X5 kfX5_setOfTop_30 rfl (by decide) shC_34 rfl rfl dX5_setOfTop_1 ?_
  refine lv_if_le (tgt := 16) S.1 S.2.1 dX5_setOfTop_4 (by decide) (fun c1 => ?_) (fun c1 => ?_)
  · rw [if_pos c1] at hm
    refine lv_iconst (v := (-1 : Int32)) S.1 S.2.1 dX5_setOfTop_16 (by decide) ?_
    exact gReti S hr hlk C (Option.some.inj hm) rfl dX5_setOfTop_17
  · rw [if_neg c1] at hm
    refine lv_aload_n S.1 S.2.1 dX5_setOfTop_7 rfl (lv_at hl 0 rfl) ?_
    refine g_get (k := 34) (ci := 4) (f := 5) (v := .ref (ad 40))  S C kiX5_setOfTop_X5 kfX5_setOfTop_27 rfl (by decide) shC_34 rfl rfl dX5_setOfTop_8 ?_
    refine lv_iconst (v := (0 : Int32)) S.1 S.2.1 dX5_setOfTop_11 (by decide) ?_
    obtain ⟨h2, hm⟩ := ck_ok hm
    refine g_iald S C (k := 40) shC_40 h2 dX5_setOfTop_12 ?_
    refine lv_goto (tgt := 17) S.1 S.2.1 dX5_setOfTop_13 (by decide) ?_
    exact gReti S hr hlk C (Option.some.inj hm) rfl dX5_setOfTop_17
def mX5_leastOf_2 : Nat → Int32 → Int32 → Option Int32
  | 0, _, _ => none
  | n + 1, x0, x1 => if (16 : Int32) ≤ x1 then (some x1) else (if (x0 &&& ((1 : Int32) <<< (x1 &&& 31))) = 0 then (nmd (x1 + (1 : Int32)) fun y3 => mX5_leastOf_2 n x0 y3) else (some x1))
def mX5_leastOf (x0 : Int32) : Option Int32 := mX5_leastOf_2 FU x0 (0 : Int32)
set_option maxHeartbeats 4000000 in
set_option maxRecDepth 100000 in
theorem wX5_leastOf_2 {p : Program} {l : Launch} {e : Env} {s : State} {m : MethodId} {args : Array Value} {below : List Frame} {meth : Method} {c : Code} {D : va_G} {cy : gCy} {ad : Nat → Nat} {M : gMem} {r0 : Int32} (S : CallFix p m c cX5_leastOf 2 s args wsX5_leastOf RX5) (hr : meth.sig.returnType = (some .int)) (hlk : meth.locks = false) : ∀ (n : Nat), ∀ (H : Heap) (locs : List Loc), gW shC D cy ad s s.heap M H locs → ∀ (x0 : Int32) (x1 : Int32), ∀ (ls : Array Slot), lv_has ls 2 [(0, .int x0), (1, .int x1)] → mX5_leastOf_2 n x0 x1 = some r0 → W p l e (gR 0 0) s m args below meth c H locs 0 0 (MQ below (gQi shC D cy ad r0 M) args s 0 0 (gA shC ad)) (F0 m 2 ls []) := by
  intro n
  induction n with
  | zero => intro H locs C x0 x1 ls hl hm; exact absurd hm (by simp [mX5_leastOf_2])
  | succ n ih =>
    intro H locs C x0 x1 ls hl hm
    rw [mX5_leastOf_2] at hm
    refine lv_iload_n S.1 S.2.1 dX5_leastOf_2 rfl (lv_at hl 1 rfl) ?_
    refine lv_bipush (v := (16 : Int32)) S.1 S.2.1 dX5_leastOf_3 (by decide) ?_
    refine lv_icmp_ge (tgt := 22) S.1 S.2.1 dX5_leastOf_5 (by decide) (fun c1 => ?_) (fun c1 => ?_)
    · rw [if_pos c1] at hm
      refine lv_iload_n S.1 S.2.1 dX5_leastOf_22 rfl (lv_at hl 1 rfl) ?_
      exact gReti S hr hlk C (Option.some.inj hm) rfl dX5_leastOf_23
    · rw [if_neg c1] at hm
      refine lv_iload_n S.1 S.2.1 dX5_leastOf_8 rfl (lv_at hl 0 rfl) ?_
      refine lv_iconst (v := (1 : Int32)) S.1 S.2.1 dX5_leastOf_9 (by decide) ?_
      refine lv_iload_n S.1 S.2.1 dX5_leastOf_10 rfl (lv_at hl 1 rfl) ?_
      refine lv_ishl S.1 S.2.1 dX5_leastOf_11 ?_
      refine lv_iand S.1 S.2.1 dX5_leastOf_12 ?_
      refine lv_if_ne (tgt := 22) S.1 S.2.1 dX5_leastOf_13 (by decide) (fun c2 => ?_) (fun c2 => ?_)
      · rw [if_neg c2] at hm
        refine lv_iload_n S.1 S.2.1 dX5_leastOf_22 rfl (lv_at hl 1 rfl) ?_
        exact gReti S hr hlk C (Option.some.inj hm) rfl dX5_leastOf_23
      · rw [if_pos c2] at hm
        obtain ⟨y3, ey3, hm⟩ := nmd_ok hm
        refine lv_iinc (v := y3) (lv' := [(1, .int y3), (0, .int x0)]) S.1 S.2.1 dX5_leastOf_16 hl (k := 1) rfl (by rw [ey3]; rfl) (by decide) rfl (fun ls hl => ?_)
        refine lv_goto (tgt := 2) S.1 S.2.1 dX5_leastOf_19 (by decide) ?_
        exact ih _ _ C x0 y3 ls (lv_sub hl [1, 0] rfl) hm
set_option maxHeartbeats 4000000 in
set_option maxRecDepth 100000 in
theorem c_X5_leastOf (l : Launch) (D : va_G) (cy : gCy) (ad : Nat → Nat) (M : gMem) (x0 : Int32) (r0 : Int32) (hm : mX5_leastOf x0 = some r0) : Met l yX5_leastOf wsX5_leastOf (gR 0 0) (va_Pc [.int x0] (gP shC D cy ad M)) (gQi shC D cy ad r0 M) 0 0 (gA shC ad) := by
  refine gEnter (cc := cX5_leastOf) (maxL := 2) (ret := (some .int)) (by decide) rfl (Nat.le_of_ble_eq_true rfl) ?_
  intro p e s m below meth c ls S hr hlk C hl
  have S : CallFix p m c cX5_leastOf 2 s _ wsX5_leastOf RX5 := S
  have hl : lv_has ls 2 [(0, .int x0)] := hl
  rw [mX5_leastOf] at hm
  refine lv_iconst (v := (0 : Int32)) S.1 S.2.1 dX5_leastOf_0 (by decide) ?_
  refine lv_istore_n (lv' := [(1, .int (0 : Int32)), (0, .int x0)]) S.1 S.2.1 dX5_leastOf_1 rfl hl (by decide) rfl (fun ls hl => ?_)
  exact wX5_leastOf_2 S hr hlk FU _ _ C x0 (0 : Int32) ls (lv_sub hl [1, 0] rfl) hm
def mX5_writeIfNeeded (M : gMem) (x0 : Nat) (x1 : Int32) (x2 : Int32) (x3 : Int32) (x4 : Int32) : Option (Int32 × gMem) := if (x3 &&& ((1 : Int32) <<< (x4 &&& 31))) = 0 then ((mX5_leastOf x3).bind fun r2 => (mX2_append M x0 x1 x2 r2).bind fun r3 => some (r2, r3)) else (some (x4, M))
set_option maxHeartbeats 4000000 in
set_option maxRecDepth 100000 in
theorem c_X5_writeIfNeeded (l : Launch) (D : va_G) (cy : gCy) (ad : Nat → Nat) (M : gMem) (x0 : Nat) (hL0 : isL x0) (x1 : Int32) (x2 : Int32) (x3 : Int32) (x4 : Int32) (r0 : (Int32 × gMem)) (hm : mX5_writeIfNeeded M x0 x1 x2 x3 x4 = some r0) : Met l yX5_writeIfNeeded wsX5_writeIfNeeded (gR 1 23) (va_Pc [.ref (ad x0), .int x1, .int x2, .int x3, .int x4] (gP shC D cy ad M)) (gQi shC D cy ad r0.1 r0.2) 0 0 (gA shC ad) := by
  refine gEnter (cc := cX5_writeIfNeeded) (maxL := 6) (ret := (some .int)) (by decide) rfl (Nat.le_of_ble_eq_true rfl) ?_
  intro p e s m below meth c ls S hr hlk C hl
  have S : CallFix p m c cX5_writeIfNeeded 6 s _ wsX5_writeIfNeeded RX5 := S
  have hl : lv_has ls 6 [(0, .ref (ad x0)), (1, .int x1), (2, .int x2), (3, .int x3), (4, .int x4)] := hl
  rw [mX5_writeIfNeeded] at hm
  refine lv_iload_n S.1 S.2.1 dX5_writeIfNeeded_0 rfl (lv_at hl 3 rfl) ?_
  refine lv_iconst (v := (1 : Int32)) S.1 S.2.1 dX5_writeIfNeeded_1 (by decide) ?_
  refine lv_iload S.1 S.2.1 dX5_writeIfNeeded_2 (lv_at hl 4 rfl) ?_
  refine lv_ishl S.1 S.2.1 dX5_writeIfNeeded_4 ?_
  refine lv_iand S.1 S.2.1 dX5_writeIfNeeded_5 ?_
  refine lv_if_eq (tgt := 12) S.1 S.2.1 dX5_writeIfNeeded_6 (by decide) (fun c1 => ?_) (fun c1 => ?_)
  · rw [if_pos c1] at hm
    refine lv_iload_n S.1 S.2.1 dX5_writeIfNeeded_12 rfl (lv_at hl 3 rfl) ?_
    obtain ⟨r2, hcr2, hm⟩ := bd_ok hm
    refine gC_i C (gRS (As := [.int x3]) (rest := []) 1 S C (c_X5_leastOf l D cy ad M x3 r2 hcr2) gX5_writeIfNeeded_X5_leastOf rfl (by decide +kernel) (by decide) rfl hl.1 rfl (Nat.le_of_ble_eq_true rfl) dX5_writeIfNeeded_13) (fun H locs C => ?_)
    refine lv_istore (lv' := [(5, .int r2), (0, .ref (ad x0)), (1, .int x1), (2, .int x2), (3, .int x3), (4, .int x4)]) S.1 S.2.1 dX5_writeIfNeeded_16 hl (by decide) rfl (fun ls hl => ?_)
    refine lv_aload_n S.1 S.2.1 dX5_writeIfNeeded_18 rfl (lv_at hl 1 rfl) ?_
    refine lv_iload_n S.1 S.2.1 dX5_writeIfNeeded_19 rfl (lv_at hl 2 rfl) ?_
    refine lv_iload_n S.1 S.2.1 dX5_writeIfNeeded_20 rfl (lv_at hl 3 rfl) ?_
    refine lv_iload S.1 S.2.1 dX5_writeIfNeeded_21 (lv_at hl 0 rfl) ?_
    obtain ⟨r3, hcr3, hm⟩ := bd_ok hm
    refine gC_v C (gRV (k := x0) (ci := 2) (r := (RX2, TX2, 5)) (As := [.int x1, .int x2, .int r2]) (rest := []) 3 S C (c_X2_append l D cy ad M x0 hL0 x1 x2 r2 r3 hcr3) gX5_writeIfNeeded_X2_append rfl (by decide +kernel) (by decide) hL0.1 rfl rfl rfl hl.1 rfl (Nat.le_of_ble_eq_true rfl) dX5_writeIfNeeded_23) (fun H locs C => ?_)
    refine lv_iload S.1 S.2.1 dX5_writeIfNeeded_26 (lv_at hl 0 rfl) ?_
    exact gReti S hr hlk C (pr1 hm) (pr2 hm) dX5_writeIfNeeded_28
  · rw [if_neg c1] at hm
    refine lv_iload S.1 S.2.1 dX5_writeIfNeeded_9 (lv_at hl 4 rfl) ?_
    exact gReti S hr hlk C (pr1 hm) (pr2 hm) dX5_writeIfNeeded_11
def mX5_writeWithTwin (rec : gMem → Nat → Int32 → Int32 → Int32 → Option gMem) (M : gMem) (x1 : Nat) (x2 : Int32) (x3 : Int32) (x4 : Int32) (x5 : Int32) : Option gMem := ck (inb x3 256) <| nmd (M.1 36 x3.toNatClampNeg) fun y2 => (mX7_bitAt (y2 - (1 : Int32))).bind fun r3 => ck (inb x3 256) <| nmd ((M.1 35 x3.toNatClampNeg) ^^^ r3) fun y5 => ck (inb x2 256) <| nmd ((1 : Int32) <<< ((M.1 37 x2.toNatClampNeg) &&& 31)) fun y7 => if (y5 &&& r3) = 0 then ((mX5_writeIfNeeded M x1 y5 y2 y7 x4).bind fun r11 => (rec r11.2 x1 x3 x4 (x5 + (1 : Int32))).bind fun r12 => some r12) else ((rec M x1 x3 x4 (x5 + (1 : Int32))).bind fun r9 => (mX5_writeIfNeeded r9 x1 y5 y2 y7 x4).bind fun r10 => some r10.2)
set_option maxHeartbeats 4000000 in
set_option maxRecDepth 100000 in
theorem c_X5_writeWithTwin (l : Launch) (D : va_G) (cy : gCy) (ad : Nat → Nat) (rec : gMem → Nat → Int32 → Int32 → Int32 → Option gMem) (rf rn : Nat) (hrec : ∀ (M : gMem) (x1 : Nat) (hL1 : isL x1) (x2 : Int32) (x3 : Int32) (x4 : Int32) (r0 : gMem), rec M x1 x2 x3 x4 = some r0 → Met l yX5_writeNode wsX5_writeNode (gR rf rn) (va_Pc [.ref (ad 34), .ref (ad x1), .int x2, .int x3, .int x4] (gP shC D cy ad M)) (gQv shC D cy ad r0) 0 0 (gA shC ad)) (M : gMem) (x1 : Nat) (hL1 : isL x1) (x2 : Int32) (x3 : Int32) (x4 : Int32) (x5 : Int32) (r0 : gMem) (hm : mX5_writeWithTwin rec M x1 x2 x3 x4 x5 = some r0) : Met l yX5_writeWithTwin wsX5_writeWithTwin (gR (rf + 2) (rn + 48)) (va_Pc [.ref (ad 34), .ref (ad x1), .int x2, .int x3, .int x4, .int x5] (gP shC D cy ad M)) (gQv shC D cy ad r0) 0 0 (gA shC ad) := by
  refine gEnter (cc := cX5_writeWithTwin) (maxL := 10) (ret := none) (by decide) rfl (Nat.le_of_ble_eq_true rfl) ?_
  intro p e s m below meth c ls S hr hlk C hl
  have S : CallFix p m c cX5_writeWithTwin 10 s _ wsX5_writeWithTwin RX5 := S
  have hl : lv_has ls 10 [(0, .ref (ad 34)), (1, .ref (ad x1)), (2, .int x2), (3, .int x3), (4, .int x4), (5, .int x5)] := hl
  rw [mX5_writeWithTwin] at hm
  refine lv_aload_n S.1 S.2.1 dX5_writeWithTwin_0 rfl (lv_at hl 0 rfl) ?_
  refine g_get (k := 34) (ci := 4) (f := 1) (v := .ref (ad 36))  S C kiX5_writeWithTwin_X5 kfX5_writeWithTwin_15 rfl (by decide) shC_34 rfl rfl dX5_writeWithTwin_1 ?_
  refine lv_iload_n S.1 S.2.1 dX5_writeWithTwin_4 rfl (lv_at hl 3 rfl) ?_
  obtain ⟨h1, hm⟩ := ck_ok hm
  refine g_iald S C (k := 36) shC_36 h1 dX5_writeWithTwin_5 ?_
  obtain ⟨y2, ey2, hm⟩ := nmd_ok hm
  refine gNmI ey2 ?_
  refine lv_istore (lv' := [(6, .int y2), (0, .ref (ad 34)), (1, .ref (ad x1)), (2, .int x2), (3, .int x3), (4, .int x4), (5, .int x5)]) S.1 S.2.1 dX5_writeWithTwin_6 hl (by decide) rfl (fun ls hl => ?_)
  refine lv_iload S.1 S.2.1 dX5_writeWithTwin_8 (lv_at hl 0 rfl) ?_
  refine lv_iconst (v := (1 : Int32)) S.1 S.2.1 dX5_writeWithTwin_10 (by decide) ?_
  refine lv_isub S.1 S.2.1 dX5_writeWithTwin_11 ?_
  obtain ⟨r3, hcr3, hm⟩ := bd_ok hm
  refine gC_i C (gRSN (host := "PrefixLeader") (As := [.int (y2 - (1 : Int32))]) (rest := []) 1 S C (c_X7_bitAt l D cy ad M (y2 - (1 : Int32)) r3 hcr3) gX5_writeWithTwin_X7_bitAt_n84 rfl (by decide +kernel) knX5_writeWithTwin_X7_bitAti knX5_writeWithTwin_X7_bitAts (by decide +kernel) (by omega) rfl hl.1 rfl (Nat.le_of_ble_eq_true rfl) dX5_writeWithTwin_12) (fun H locs C => ?_)
  refine lv_istore (lv' := [(7, .int r3), (6, .int y2), (0, .ref (ad 34)), (1, .ref (ad x1)), (2, .int x2), (3, .int x3), (4, .int x4), (5, .int x5)]) S.1 S.2.1 dX5_writeWithTwin_15 hl (by decide) rfl (fun ls hl => ?_)
  refine lv_aload_n S.1 S.2.1 dX5_writeWithTwin_17 rfl (lv_at hl 2 rfl) ?_
  refine g_get (k := 34) (ci := 4) (f := 0) (v := .ref (ad 35))  S C kiX5_writeWithTwin_X5 kfX5_writeWithTwin_11 rfl (by decide) shC_34 rfl rfl dX5_writeWithTwin_18 ?_
  refine lv_iload_n S.1 S.2.1 dX5_writeWithTwin_21 rfl (lv_at hl 5 rfl) ?_
  obtain ⟨h4, hm⟩ := ck_ok hm
  refine g_iald S C (k := 35) shC_35 h4 dX5_writeWithTwin_22 ?_
  refine lv_iload S.1 S.2.1 dX5_writeWithTwin_23 (lv_at hl 0 rfl) ?_
  refine lv_ixor S.1 S.2.1 dX5_writeWithTwin_25 ?_
  obtain ⟨y5, ey5, hm⟩ := nmd_ok hm
  refine gNmI ey5 ?_
  refine lv_istore (lv' := [(8, .int y5), (7, .int r3), (6, .int y2), (0, .ref (ad 34)), (1, .ref (ad x1)), (2, .int x2), (3, .int x3), (4, .int x4), (5, .int x5)]) S.1 S.2.1 dX5_writeWithTwin_26 hl (by decide) rfl (fun ls hl => ?_)
  refine lv_iconst (v := (1 : Int32)) S.1 S.2.1 dX5_writeWithTwin_28 (by decide) ?_
  refine lv_aload_n S.1 S.2.1 dX5_writeWithTwin_29 rfl (lv_at hl 3 rfl) ?_
  refine g_get (k := 34) (ci := 4) (f := 2) (v := .ref (ad 37))  S C kiX5_writeWithTwin_X5 kfX5_writeWithTwin_18 rfl (by decide) shC_34 rfl rfl dX5_writeWithTwin_30 ?_
  refine lv_iload_n S.1 S.2.1 dX5_writeWithTwin_33 rfl (lv_at hl 5 rfl) ?_
  obtain ⟨h6, hm⟩ := ck_ok hm
  refine g_iald S C (k := 37) shC_37 h6 dX5_writeWithTwin_34 ?_
  refine lv_ishl S.1 S.2.1 dX5_writeWithTwin_35 ?_
  obtain ⟨y7, ey7, hm⟩ := nmd_ok hm
  refine gNmI ey7 ?_
  refine lv_istore (lv' := [(9, .int y7), (8, .int y5), (7, .int r3), (6, .int y2), (0, .ref (ad 34)), (1, .ref (ad x1)), (2, .int x2), (3, .int x3), (4, .int x4), (5, .int x5)]) S.1 S.2.1 dX5_writeWithTwin_36 hl (by decide) rfl (fun ls hl => ?_)
  refine lv_iload S.1 S.2.1 dX5_writeWithTwin_38 (lv_at hl 1 rfl) ?_
  refine lv_iload S.1 S.2.1 dX5_writeWithTwin_40 (lv_at hl 2 rfl) ?_
  refine lv_iand S.1 S.2.1 dX5_writeWithTwin_42 ?_
  refine lv_if_ne (tgt := 74) S.1 S.2.1 dX5_writeWithTwin_43 (by decide) (fun c8 => ?_) (fun c8 => ?_)
  · rw [if_neg c8] at hm
    refine lv_aload_n S.1 S.2.1 dX5_writeWithTwin_74 rfl (lv_at hl 4 rfl) ?_
    refine lv_aload_n S.1 S.2.1 dX5_writeWithTwin_75 rfl (lv_at hl 5 rfl) ?_
    refine lv_iload_n S.1 S.2.1 dX5_writeWithTwin_76 rfl (lv_at hl 7 rfl) ?_
    refine lv_iload S.1 S.2.1 dX5_writeWithTwin_77 (lv_at hl 8 rfl) ?_
    refine lv_iload S.1 S.2.1 dX5_writeWithTwin_79 (lv_at hl 9 rfl) ?_
    refine lv_iconst (v := (1 : Int32)) S.1 S.2.1 dX5_writeWithTwin_81 (by decide) ?_
    refine lv_iadd S.1 S.2.1 dX5_writeWithTwin_82 ?_
    obtain ⟨r9, hcr9, hm⟩ := bd_ok hm
    refine gC_v C (gRV (k := 34) (ci := 4) (r := (RX5, TX5, 7)) (As := [.ref (ad x1), .int x3, .int x4, .int (x5 + (1 : Int32))]) (rest := []) 4 S C (hrec M x1 hL1 x3 x4 (x5 + (1 : Int32)) r9 hcr9) gX5_writeWithTwin_X5_writeNode rfl (by decide +kernel) (by omega) shC_34 rfl rfl rfl hl.1 rfl (Nat.le_of_ble_eq_true rfl) dX5_writeWithTwin_83) (fun H locs C => ?_)
    refine lv_aload_n S.1 S.2.1 dX5_writeWithTwin_86 rfl (lv_at hl 5 rfl) ?_
    refine lv_iload S.1 S.2.1 dX5_writeWithTwin_87 (lv_at hl 1 rfl) ?_
    refine lv_iload S.1 S.2.1 dX5_writeWithTwin_89 (lv_at hl 3 rfl) ?_
    refine lv_iload S.1 S.2.1 dX5_writeWithTwin_91 (lv_at hl 0 rfl) ?_
    refine lv_iload S.1 S.2.1 dX5_writeWithTwin_93 (lv_at hl 8 rfl) ?_
    obtain ⟨r10, hcr10, hm⟩ := bd_ok hm
    refine gC_i C (gRS (As := [.ref (ad x1), .int y5, .int y2, .int y7, .int x4]) (rest := []) 5 S C (c_X5_writeIfNeeded l D cy ad r9 x1 hL1 y5 y2 y7 x4 r10 hcr10) gX5_writeWithTwin_X5_writeIfNeeded rfl (by decide +kernel) (by omega) rfl hl.1 rfl (Nat.le_of_ble_eq_true rfl) dX5_writeWithTwin_95) (fun H locs C => ?_)
    refine lv_pop S.1 S.2.1 dX5_writeWithTwin_98 rfl ?_
    exact gRetv S hr hlk C (Option.some.inj hm) dX5_writeWithTwin_99
  · rw [if_pos c8] at hm
    refine lv_aload_n S.1 S.2.1 dX5_writeWithTwin_46 rfl (lv_at hl 5 rfl) ?_
    refine lv_iload S.1 S.2.1 dX5_writeWithTwin_47 (lv_at hl 1 rfl) ?_
    refine lv_iload S.1 S.2.1 dX5_writeWithTwin_49 (lv_at hl 3 rfl) ?_
    refine lv_iload S.1 S.2.1 dX5_writeWithTwin_51 (lv_at hl 0 rfl) ?_
    refine lv_iload S.1 S.2.1 dX5_writeWithTwin_53 (lv_at hl 8 rfl) ?_
    obtain ⟨r11, hcr11, hm⟩ := bd_ok hm
    refine gC_i C (gRS (As := [.ref (ad x1), .int y5, .int y2, .int y7, .int x4]) (rest := []) 5 S C (c_X5_writeIfNeeded l D cy ad M x1 hL1 y5 y2 y7 x4 r11 hcr11) gX5_writeWithTwin_X5_writeIfNeeded rfl (by decide +kernel) (by omega) rfl hl.1 rfl (Nat.le_of_ble_eq_true rfl) dX5_writeWithTwin_55) (fun H locs C => ?_)
    refine lv_pop S.1 S.2.1 dX5_writeWithTwin_58 rfl ?_
    refine lv_aload_n S.1 S.2.1 dX5_writeWithTwin_59 rfl (lv_at hl 4 rfl) ?_
    refine lv_aload_n S.1 S.2.1 dX5_writeWithTwin_60 rfl (lv_at hl 5 rfl) ?_
    refine lv_iload_n S.1 S.2.1 dX5_writeWithTwin_61 rfl (lv_at hl 7 rfl) ?_
    refine lv_iload S.1 S.2.1 dX5_writeWithTwin_62 (lv_at hl 8 rfl) ?_
    refine lv_iload S.1 S.2.1 dX5_writeWithTwin_64 (lv_at hl 9 rfl) ?_
    refine lv_iconst (v := (1 : Int32)) S.1 S.2.1 dX5_writeWithTwin_66 (by decide) ?_
    refine lv_iadd S.1 S.2.1 dX5_writeWithTwin_67 ?_
    obtain ⟨r12, hcr12, hm⟩ := bd_ok hm
    refine gC_v C (gRV (k := 34) (ci := 4) (r := (RX5, TX5, 7)) (As := [.ref (ad x1), .int x3, .int x4, .int (x5 + (1 : Int32))]) (rest := []) 4 S C (hrec r11.2 x1 hL1 x3 x4 (x5 + (1 : Int32)) r12 hcr12) gX5_writeWithTwin_X5_writeNode rfl (by decide +kernel) (by omega) shC_34 rfl rfl rfl hl.1 rfl (Nat.le_of_ble_eq_true rfl) dX5_writeWithTwin_68) (fun H locs C => ?_)
    refine lv_goto (tgt := 99) S.1 S.2.1 dX5_writeWithTwin_71 (by decide) ?_
    exact gRetv S hr hlk C (Option.some.inj hm) dX5_writeWithTwin_99
def mX5_writeSide_46 (rec : gMem → Nat → Int32 → Int32 → Int32 → Option gMem) (M : gMem) (x1 : Nat) (x2 : Int32) (x3 : Int32) (x4 : Int32) (x5 : Int32) (x6 : Int32) (x7 : Int32) : Option gMem := (mX5_setOfSide M x2 x3).bind fun r1 => (mX5_writeIfNeeded M x1 x4 x7 r1 x5).bind fun r2 => if x3 < 0 then (some r2.2) else (if (r2.2.1 34 6) ≤ x3 then (some r2.2) else ((mX5_writeWithTwin rec r2.2 x1 x2 x3 r2.1 x6).bind fun r5 => some r5))
def mX5_writeSide (rec : gMem → Nat → Int32 → Int32 → Int32 → Option gMem) (M : gMem) (x1 : Nat) (x2 : Int32) (x3 : Int32) (x4 : Int32) (x5 : Int32) (x6 : Int32) : Option gMem := ck (inb x2 256) <| nmd ((M.1 36 x2.toNatClampNeg) + (1 : Int32)) fun y2 => if x3 < 0 then (mX5_writeSide_46 rec M x1 x2 x3 x4 x5 x6 y2) else (if (M.1 34 6) ≤ x3 then (mX5_writeSide_46 rec M x1 x2 x3 x4 x5 x6 y2) else (ck (inb x3 256) <| if (M.1 36 x3.toNatClampNeg) = y2 then ((rec M x1 x3 x5 (x6 + (1 : Int32))).bind fun r7 => some r7) else (mX5_writeSide_46 rec M x1 x2 x3 x4 x5 x6 y2)))
set_option maxHeartbeats 4000000 in
set_option maxRecDepth 100000 in
theorem wX5_writeSide_46 {p : Program} {l : Launch} {e : Env} {s : State} {m : MethodId} {args : Array Value} {below : List Frame} {meth : Method} {c : Code} {D : va_G} {cy : gCy} {ad : Nat → Nat} {r0 : gMem} (S : CallFix p m c cX5_writeSide 9 s args wsX5_writeSide RX5) (hr : meth.sig.returnType = none) (hlk : meth.locks = false) {rec : gMem → Nat → Int32 → Int32 → Int32 → Option gMem} {rf rn : Nat} (hrec : ∀ (M : gMem) (x1 : Nat) (hL1 : isL x1) (x2 : Int32) (x3 : Int32) (x4 : Int32) (r0 : gMem), rec M x1 x2 x3 x4 = some r0 → Met l yX5_writeNode wsX5_writeNode (gR rf rn) (va_Pc [.ref (ad 34), .ref (ad x1), .int x2, .int x3, .int x4] (gP shC D cy ad M)) (gQv shC D cy ad r0) 0 0 (gA shC ad)) : ∀ (M : gMem) (H : Heap) (locs : List Loc), gW shC D cy ad s s.heap M H locs → ∀ (x1 : Nat) (hL1 : isL x1) (x2 : Int32) (x3 : Int32) (x4 : Int32) (x5 : Int32) (x6 : Int32) (x7 : Int32), ∀ (ls : Array Slot), lv_has ls 9 [(0, .ref (ad 34)), (1, .ref (ad x1)), (2, .int x2), (3, .int x3), (4, .int x4), (5, .int x5), (6, .int x6), (7, .int x7)] → mX5_writeSide_46 rec M x1 x2 x3 x4 x5 x6 x7 = some r0 → W p l e (gR (rf + 3) (rn + 77)) s m args below meth c H locs 0 0 (MQ below (gQv shC D cy ad r0) args s 0 0 (gA shC ad)) (F0 m 46 ls []) := by
  intro M H locs C x1 hL1 x2 x3 x4 x5 x6 x7 ls hl hm
  rw [mX5_writeSide_46] at hm
  refine lv_aload_n S.1 S.2.1 dX5_writeSide_46 rfl (lv_at hl 1 rfl) ?_
  refine lv_iload S.1 S.2.1 dX5_writeSide_47 (lv_at hl 4 rfl) ?_
  refine lv_iload S.1 S.2.1 dX5_writeSide_49 (lv_at hl 7 rfl) ?_
  refine lv_aload_n S.1 S.2.1 dX5_writeSide_51 rfl (lv_at hl 0 rfl) ?_
  refine lv_iload_n S.1 S.2.1 dX5_writeSide_52 rfl (lv_at hl 2 rfl) ?_
  refine lv_iload_n S.1 S.2.1 dX5_writeSide_53 rfl (lv_at hl 3 rfl) ?_
  obtain ⟨r1, hcr1, hm⟩ := bd_ok hm
  refine gC_i C (gRV (k := 34) (ci := 4) (r := (RX5, TX5, 7)) (As := [.int x2, .int x3]) (rest := [.int x7, .int x4, .ref (ad x1)]) 2 S C (c_X5_setOfSide l D cy ad M x2 x3 r1 hcr1) gX5_writeSide_X5_setOfSide rfl (by decide +kernel) (by omega) shC_34 rfl rfl rfl hl.1 rfl (Nat.le_of_ble_eq_true rfl) dX5_writeSide_54) (fun H locs C => ?_)
  refine lv_iload S.1 S.2.1 dX5_writeSide_57 (lv_at hl 5 rfl) ?_
  obtain ⟨r2, hcr2, hm⟩ := bd_ok hm
  refine gC_i C (gRS (As := [.ref (ad x1), .int x4, .int x7, .int r1, .int x5]) (rest := []) 5 S C (c_X5_writeIfNeeded l D cy ad M x1 hL1 x4 x7 r1 x5 r2 hcr2) gX5_writeSide_X5_writeIfNeeded rfl (by decide +kernel) (by omega) rfl hl.1 rfl (Nat.le_of_ble_eq_true rfl) dX5_writeSide_59) (fun H locs C => ?_)
  refine lv_istore (lv' := [(8, .int r2.1), (0, .ref (ad 34)), (1, .ref (ad x1)), (2, .int x2), (3, .int x3), (4, .int x4), (5, .int x5), (6, .int x6), (7, .int x7)]) S.1 S.2.1 dX5_writeSide_62 hl (by decide) rfl (fun ls hl => ?_)
  refine lv_iload_n S.1 S.2.1 dX5_writeSide_64 rfl (lv_at hl 4 rfl) ?_
  refine lv_if_lt (tgt := 87) S.1 S.2.1 dX5_writeSide_65 (by decide) (fun c3 => ?_) (fun c3 => ?_)
  · rw [if_pos c3] at hm
    exact gRetv S hr hlk C (Option.some.inj hm) dX5_writeSide_87
  · rw [if_neg c3] at hm
    refine lv_iload_n S.1 S.2.1 dX5_writeSide_68 rfl (lv_at hl 4 rfl) ?_
    refine lv_aload_n S.1 S.2.1 dX5_writeSide_69 rfl (lv_at hl 1 rfl) ?_
    refine g_get (k := 34) (ci := 4) (f := 6) (v := .int (r2.2.1 34 6))  S C kiX5_writeSide_X5 kfX5_writeSide_30 rfl (by decide) shC_34 rfl rfl dX5_writeSide_70 ?_
    refine lv_icmp_ge (tgt := 87) S.1 S.2.1 dX5_writeSide_73 (by decide) (fun c4 => ?_) (fun c4 => ?_)
    · rw [if_pos c4] at hm
      exact gRetv S hr hlk C (Option.some.inj hm) dX5_writeSide_87
    · rw [if_neg c4] at hm
      refine lv_aload_n S.1 S.2.1 dX5_writeSide_76 rfl (lv_at hl 1 rfl) ?_
      refine lv_aload_n S.1 S.2.1 dX5_writeSide_77 rfl (lv_at hl 2 rfl) ?_
      refine lv_iload_n S.1 S.2.1 dX5_writeSide_78 rfl (lv_at hl 3 rfl) ?_
      refine lv_iload_n S.1 S.2.1 dX5_writeSide_79 rfl (lv_at hl 4 rfl) ?_
      refine lv_iload S.1 S.2.1 dX5_writeSide_80 (lv_at hl 0 rfl) ?_
      refine lv_iload S.1 S.2.1 dX5_writeSide_82 (lv_at hl 7 rfl) ?_
      obtain ⟨r5, hcr5, hm⟩ := bd_ok hm
      refine gC_v C (gRV (k := 34) (ci := 4) (r := (RX5, TX5, 7)) (As := [.ref (ad x1), .int x2, .int x3, .int r2.1, .int x6]) (rest := []) 5 S C (c_X5_writeWithTwin l D cy ad rec _ _ hrec r2.2 x1 hL1 x2 x3 r2.1 x6 r5 hcr5) gX5_writeSide_X5_writeWithTwin rfl (by decide +kernel) (by omega) shC_34 rfl rfl rfl hl.1 rfl (Nat.le_of_ble_eq_true rfl) dX5_writeSide_84) (fun H locs C => ?_)
      exact gRetv S hr hlk C (Option.some.inj hm) dX5_writeSide_87
set_option maxHeartbeats 4000000 in
set_option maxRecDepth 100000 in
theorem c_X5_writeSide (l : Launch) (D : va_G) (cy : gCy) (ad : Nat → Nat) (rec : gMem → Nat → Int32 → Int32 → Int32 → Option gMem) (rf rn : Nat) (hrec : ∀ (M : gMem) (x1 : Nat) (hL1 : isL x1) (x2 : Int32) (x3 : Int32) (x4 : Int32) (r0 : gMem), rec M x1 x2 x3 x4 = some r0 → Met l yX5_writeNode wsX5_writeNode (gR rf rn) (va_Pc [.ref (ad 34), .ref (ad x1), .int x2, .int x3, .int x4] (gP shC D cy ad M)) (gQv shC D cy ad r0) 0 0 (gA shC ad)) (M : gMem) (x1 : Nat) (hL1 : isL x1) (x2 : Int32) (x3 : Int32) (x4 : Int32) (x5 : Int32) (x6 : Int32) (r0 : gMem) (hm : mX5_writeSide rec M x1 x2 x3 x4 x5 x6 = some r0) : Met l yX5_writeSide wsX5_writeSide (gR (rf + 3) (rn + 77)) (va_Pc [.ref (ad 34), .ref (ad x1), .int x2, .int x3, .int x4, .int x5, .int x6] (gP shC D cy ad M)) (gQv shC D cy ad r0) 0 0 (gA shC ad) := by
  refine gEnter (cc := cX5_writeSide) (maxL := 9) (ret := none) (by decide) rfl (Nat.le_of_ble_eq_true rfl) ?_
  intro p e s m below meth c ls S hr hlk C hl
  have S : CallFix p m c cX5_writeSide 9 s _ wsX5_writeSide RX5 := S
  have hl : lv_has ls 9 [(0, .ref (ad 34)), (1, .ref (ad x1)), (2, .int x2), (3, .int x3), (4, .int x4), (5, .int x5), (6, .int x6)] := hl
  rw [mX5_writeSide] at hm
  refine lv_aload_n S.1 S.2.1 dX5_writeSide_0 rfl (lv_at hl 0 rfl) ?_
  refine g_get (k := 34) (ci := 4) (f := 1) (v := .ref (ad 36))  S C kiX5_writeSide_X5 kfX5_writeSide_15 rfl (by decide) shC_34 rfl rfl dX5_writeSide_1 ?_
  refine lv_iload_n S.1 S.2.1 dX5_writeSide_4 rfl (lv_at hl 2 rfl) ?_
  obtain ⟨h1, hm⟩ := ck_ok hm
  refine g_iald S C (k := 36) shC_36 h1 dX5_writeSide_5 ?_
  refine lv_iconst (v := (1 : Int32)) S.1 S.2.1 dX5_writeSide_6 (by decide) ?_
  refine lv_iadd S.1 S.2.1 dX5_writeSide_7 ?_
  obtain ⟨y2, ey2, hm⟩ := nmd_ok hm
  refine gNmI ey2 ?_
  refine lv_istore (lv' := [(7, .int y2), (0, .ref (ad 34)), (1, .ref (ad x1)), (2, .int x2), (3, .int x3), (4, .int x4), (5, .int x5), (6, .int x6)]) S.1 S.2.1 dX5_writeSide_8 hl (by decide) rfl (fun ls hl => ?_)
  refine lv_iload_n S.1 S.2.1 dX5_writeSide_10 rfl (lv_at hl 4 rfl) ?_
  refine lv_if_lt (tgt := 46) S.1 S.2.1 dX5_writeSide_11 (by decide) (fun c3 => ?_) (fun c3 => ?_)
  · rw [if_pos c3] at hm
    exact wX5_writeSide_46 S hr hlk hrec M _ _ C x1 hL1 x2 x3 x4 x5 x6 y2 ls (lv_sub hl [1, 2, 3, 4, 5, 6, 7, 0] rfl) hm
  · rw [if_neg c3] at hm
    refine lv_iload_n S.1 S.2.1 dX5_writeSide_14 rfl (lv_at hl 4 rfl) ?_
    refine lv_aload_n S.1 S.2.1 dX5_writeSide_15 rfl (lv_at hl 1 rfl) ?_
    refine g_get (k := 34) (ci := 4) (f := 6) (v := .int (M.1 34 6))  S C kiX5_writeSide_X5 kfX5_writeSide_30 rfl (by decide) shC_34 rfl rfl dX5_writeSide_16 ?_
    refine lv_icmp_ge (tgt := 46) S.1 S.2.1 dX5_writeSide_19 (by decide) (fun c4 => ?_) (fun c4 => ?_)
    · rw [if_pos c4] at hm
      exact wX5_writeSide_46 S hr hlk hrec M _ _ C x1 hL1 x2 x3 x4 x5 x6 y2 ls (lv_sub hl [1, 2, 3, 4, 5, 6, 7, 0] rfl) hm
    · rw [if_neg c4] at hm
      refine lv_aload_n S.1 S.2.1 dX5_writeSide_22 rfl (lv_at hl 1 rfl) ?_
      refine g_get (k := 34) (ci := 4) (f := 1) (v := .ref (ad 36))  S C kiX5_writeSide_X5 kfX5_writeSide_15 rfl (by decide) shC_34 rfl rfl dX5_writeSide_23 ?_
      refine lv_iload_n S.1 S.2.1 dX5_writeSide_26 rfl (lv_at hl 4 rfl) ?_
      obtain ⟨h5, hm⟩ := ck_ok hm
      refine g_iald S C (k := 36) shC_36 h5 dX5_writeSide_27 ?_
      refine lv_iload S.1 S.2.1 dX5_writeSide_28 (lv_at hl 0 rfl) ?_
      refine lv_icmp_ne (tgt := 46) S.1 S.2.1 dX5_writeSide_30 (by decide) (fun c6 => ?_) (fun c6 => ?_)
      · rw [if_neg c6] at hm
        exact wX5_writeSide_46 S hr hlk hrec M _ _ C x1 hL1 x2 x3 x4 x5 x6 y2 ls (lv_sub hl [1, 2, 3, 4, 5, 6, 7, 0] rfl) hm
      · rw [if_pos c6] at hm
        refine lv_aload_n S.1 S.2.1 dX5_writeSide_33 rfl (lv_at hl 1 rfl) ?_
        refine lv_aload_n S.1 S.2.1 dX5_writeSide_34 rfl (lv_at hl 2 rfl) ?_
        refine lv_iload_n S.1 S.2.1 dX5_writeSide_35 rfl (lv_at hl 4 rfl) ?_
        refine lv_iload S.1 S.2.1 dX5_writeSide_36 (lv_at hl 6 rfl) ?_
        refine lv_iload S.1 S.2.1 dX5_writeSide_38 (lv_at hl 7 rfl) ?_
        refine lv_iconst (v := (1 : Int32)) S.1 S.2.1 dX5_writeSide_40 (by decide) ?_
        refine lv_iadd S.1 S.2.1 dX5_writeSide_41 ?_
        obtain ⟨r7, hcr7, hm⟩ := bd_ok hm
        refine gC_v C (gRV (k := 34) (ci := 4) (r := (RX5, TX5, 7)) (As := [.ref (ad x1), .int x3, .int x5, .int (x6 + (1 : Int32))]) (rest := []) 4 S C (hrec M x1 hL1 x3 x5 (x6 + (1 : Int32)) r7 hcr7) gX5_writeSide_X5_writeNode rfl (by decide +kernel) (by omega) shC_34 rfl rfl rfl hl.1 rfl (Nat.le_of_ble_eq_true rfl) dX5_writeSide_42) (fun H locs C => ?_)
        exact gRetv S hr hlk C (Option.some.inj hm) dX5_writeSide_45
def mX5_writeNode_66 (rec : gMem → Nat → Int32 → Int32 → Int32 → Option gMem) (M : gMem) (x1 : Nat) (x2 : Int32) (x4 : Int32) (x5 : Int32) : Option gMem := ck (inb x2 256) <| ck (inb x2 256) <| (mX5_writeSide rec M x1 x2 (M.1 38 x2.toNatClampNeg) (M.1 35 x2.toNatClampNeg) x5 x4).bind fun r3 => ck (inb x2 256) <| ck (inb x2 256) <| ck (inb x2 256) <| (mX7_bitAt (r3.1 36 x2.toNatClampNeg)).bind fun r7 => (mX5_writeSide rec r3 x1 x2 (r3.1 39 x2.toNatClampNeg) ((r3.1 35 x2.toNatClampNeg) ||| r7) x5 x4).bind fun r8 => some r8
def mX5_writeNode_b (rec : gMem → Nat → Int32 → Int32 → Int32 → Option gMem) (M : gMem) (x1 : Nat) (x2 : Int32) (x3 : Int32) (x4 : Int32) : Option gMem := if x2 < 0 then (some M) else (if (M.1 34 6) ≤ x2 then (some M) else (if x4 ≤ (32 : Int32) then (ck (inb x2 256) <| ck (inb x2 256) <| ck (inb x2 256) <| (mX5_writeIfNeeded M x1 (M.1 35 x2.toNatClampNeg) (M.1 36 x2.toNatClampNeg) (M.1 40 x2.toNatClampNeg) x3).bind fun r7 => ck (inb x2 256) <| if (r7.2.1 38 x2.toNatClampNeg) = (-1 : Int32) then (ck (inb x2 256) <| if (r7.2.1 39 x2.toNatClampNeg) = (-1 : Int32) then (some r7.2) else (mX5_writeNode_66 rec r7.2 x1 x2 x4 r7.1)) else (mX5_writeNode_66 rec r7.2 x1 x2 x4 r7.1)) else (some M)))
set_option maxHeartbeats 4000000 in
set_option maxRecDepth 100000 in
theorem wX5_writeNode_66 {p : Program} {l : Launch} {e : Env} {s : State} {m : MethodId} {args : Array Value} {below : List Frame} {meth : Method} {c : Code} {D : va_G} {cy : gCy} {ad : Nat → Nat} {r0 : gMem} (S : CallFix p m c cX5_writeNode 6 s args wsX5_writeNode RX5) (hr : meth.sig.returnType = none) (hlk : meth.locks = false) {rec : gMem → Nat → Int32 → Int32 → Int32 → Option gMem} {rf rn : Nat} (hrec : ∀ (M : gMem) (x1 : Nat) (hL1 : isL x1) (x2 : Int32) (x3 : Int32) (x4 : Int32) (r0 : gMem), rec M x1 x2 x3 x4 = some r0 → Met l yX5_writeNode wsX5_writeNode (gR rf rn) (va_Pc [.ref (ad 34), .ref (ad x1), .int x2, .int x3, .int x4] (gP shC D cy ad M)) (gQv shC D cy ad r0) 0 0 (gA shC ad)) : ∀ (M : gMem) (H : Heap) (locs : List Loc), gW shC D cy ad s s.heap M H locs → ∀ (x1 : Nat) (hL1 : isL x1) (x2 : Int32) (x4 : Int32) (x5 : Int32), ∀ (ls : Array Slot), lv_has ls 6 [(0, .ref (ad 34)), (1, .ref (ad x1)), (2, .int x2), (4, .int x4), (5, .int x5)] → mX5_writeNode_66 rec M x1 x2 x4 x5 = some r0 → W p l e (gR (rf + 4) (rn + 105)) s m args below meth c H locs 0 0 (MQ below (gQv shC D cy ad r0) args s 0 0 (gA shC ad)) (F0 m 66 ls []) := by
  intro M H locs C x1 hL1 x2 x4 x5 ls hl hm
  rw [mX5_writeNode_66] at hm
  refine lv_aload_n S.1 S.2.1 dX5_writeNode_66 rfl (lv_at hl 0 rfl) ?_
  refine lv_aload_n S.1 S.2.1 dX5_writeNode_67 rfl (lv_at hl 1 rfl) ?_
  refine lv_iload_n S.1 S.2.1 dX5_writeNode_68 rfl (lv_at hl 2 rfl) ?_
  refine lv_aload_n S.1 S.2.1 dX5_writeNode_69 rfl (lv_at hl 0 rfl) ?_
  refine g_get (k := 34) (ci := 4) (f := 3) (v := .ref (ad 38))  S C kiX5_writeNode_X5 kfX5_writeNode_21 rfl (by decide) shC_34 rfl rfl dX5_writeNode_70 ?_
  refine lv_iload_n S.1 S.2.1 dX5_writeNode_73 rfl (lv_at hl 2 rfl) ?_
  obtain ⟨h1, hm⟩ := ck_ok hm
  refine g_iald S C (k := 38) shC_38 h1 dX5_writeNode_74 ?_
  refine lv_aload_n S.1 S.2.1 dX5_writeNode_75 rfl (lv_at hl 0 rfl) ?_
  refine g_get (k := 34) (ci := 4) (f := 0) (v := .ref (ad 35))  S C kiX5_writeNode_X5 kfX5_writeNode_11 rfl (by decide) shC_34 rfl rfl dX5_writeNode_76 ?_
  refine lv_iload_n S.1 S.2.1 dX5_writeNode_79 rfl (lv_at hl 2 rfl) ?_
  obtain ⟨h2, hm⟩ := ck_ok hm
  refine g_iald S C (k := 35) shC_35 h2 dX5_writeNode_80 ?_
  refine lv_iload S.1 S.2.1 dX5_writeNode_81 (lv_at hl 4 rfl) ?_
  refine lv_iload S.1 S.2.1 dX5_writeNode_83 (lv_at hl 3 rfl) ?_
  obtain ⟨r3, hcr3, hm⟩ := bd_ok hm
  refine gC_v C (gRV (k := 34) (ci := 4) (r := (RX5, TX5, 7)) (As := [.ref (ad x1), .int x2, .int (M.1 38 x2.toNatClampNeg), .int (M.1 35 x2.toNatClampNeg), .int x5, .int x4]) (rest := []) 6 S C (c_X5_writeSide l D cy ad rec _ _ hrec M x1 hL1 x2 (M.1 38 x2.toNatClampNeg) (M.1 35 x2.toNatClampNeg) x5 x4 r3 hcr3) gX5_writeNode_X5_writeSide rfl (by decide +kernel) (by omega) shC_34 rfl rfl rfl hl.1 rfl (Nat.le_of_ble_eq_true rfl) dX5_writeNode_85) (fun H locs C => ?_)
  refine lv_aload_n S.1 S.2.1 dX5_writeNode_88 rfl (lv_at hl 0 rfl) ?_
  refine lv_aload_n S.1 S.2.1 dX5_writeNode_89 rfl (lv_at hl 1 rfl) ?_
  refine lv_iload_n S.1 S.2.1 dX5_writeNode_90 rfl (lv_at hl 2 rfl) ?_
  refine lv_aload_n S.1 S.2.1 dX5_writeNode_91 rfl (lv_at hl 0 rfl) ?_
  refine g_get (k := 34) (ci := 4) (f := 4) (v := .ref (ad 39))  S C kiX5_writeNode_X5 kfX5_writeNode_24 rfl (by decide) shC_34 rfl rfl dX5_writeNode_92 ?_
  refine lv_iload_n S.1 S.2.1 dX5_writeNode_95 rfl (lv_at hl 2 rfl) ?_
  obtain ⟨h4, hm⟩ := ck_ok hm
  refine g_iald S C (k := 39) shC_39 h4 dX5_writeNode_96 ?_
  refine lv_aload_n S.1 S.2.1 dX5_writeNode_97 rfl (lv_at hl 0 rfl) ?_
  refine g_get (k := 34) (ci := 4) (f := 0) (v := .ref (ad 35))  S C kiX5_writeNode_X5 kfX5_writeNode_11 rfl (by decide) shC_34 rfl rfl dX5_writeNode_98 ?_
  refine lv_iload_n S.1 S.2.1 dX5_writeNode_101 rfl (lv_at hl 2 rfl) ?_
  obtain ⟨h5, hm⟩ := ck_ok hm
  refine g_iald S C (k := 35) shC_35 h5 dX5_writeNode_102 ?_
  refine lv_aload_n S.1 S.2.1 dX5_writeNode_103 rfl (lv_at hl 0 rfl) ?_
  refine g_get (k := 34) (ci := 4) (f := 1) (v := .ref (ad 36))  S C kiX5_writeNode_X5 kfX5_writeNode_15 rfl (by decide) shC_34 rfl rfl dX5_writeNode_104 ?_
  refine lv_iload_n S.1 S.2.1 dX5_writeNode_107 rfl (lv_at hl 2 rfl) ?_
  obtain ⟨h6, hm⟩ := ck_ok hm
  refine g_iald S C (k := 36) shC_36 h6 dX5_writeNode_108 ?_
  obtain ⟨r7, hcr7, hm⟩ := bd_ok hm
  refine gC_i C (gRSN (host := "PrefixLeader") (As := [.int (r3.1 36 x2.toNatClampNeg)]) (rest := [.int (r3.1 35 x2.toNatClampNeg), .int (r3.1 39 x2.toNatClampNeg), .int x2, .ref (ad x1), .ref (ad 34)]) 1 S C (c_X7_bitAt l D cy ad r3 (r3.1 36 x2.toNatClampNeg) r7 hcr7) gX5_writeNode_X7_bitAt_n84 rfl (by decide +kernel) knX5_writeNode_X7_bitAti knX5_writeNode_X7_bitAts (by decide +kernel) (by omega) rfl hl.1 rfl (Nat.le_of_ble_eq_true rfl) dX5_writeNode_109) (fun H locs C => ?_)
  refine lv_ior S.1 S.2.1 dX5_writeNode_112 ?_
  refine lv_iload S.1 S.2.1 dX5_writeNode_113 (lv_at hl 4 rfl) ?_
  refine lv_iload S.1 S.2.1 dX5_writeNode_115 (lv_at hl 3 rfl) ?_
  obtain ⟨r8, hcr8, hm⟩ := bd_ok hm
  refine gC_v C (gRV (k := 34) (ci := 4) (r := (RX5, TX5, 7)) (As := [.ref (ad x1), .int x2, .int (r3.1 39 x2.toNatClampNeg), .int ((r3.1 35 x2.toNatClampNeg) ||| r7), .int x5, .int x4]) (rest := []) 6 S C (c_X5_writeSide l D cy ad rec _ _ hrec r3 x1 hL1 x2 (r3.1 39 x2.toNatClampNeg) ((r3.1 35 x2.toNatClampNeg) ||| r7) x5 x4 r8 hcr8) gX5_writeNode_X5_writeSide rfl (by decide +kernel) (by omega) shC_34 rfl rfl rfl hl.1 rfl (Nat.le_of_ble_eq_true rfl) dX5_writeNode_117) (fun H locs C => ?_)
  exact gRetv S hr hlk C (Option.some.inj hm) dX5_writeNode_120
set_option maxHeartbeats 4000000 in
set_option maxRecDepth 100000 in
theorem c_X5_writeNode_b (l : Launch) (D : va_G) (cy : gCy) (ad : Nat → Nat) (rec : gMem → Nat → Int32 → Int32 → Int32 → Option gMem) (rf rn : Nat) (hrec : ∀ (M : gMem) (x1 : Nat) (hL1 : isL x1) (x2 : Int32) (x3 : Int32) (x4 : Int32) (r0 : gMem), rec M x1 x2 x3 x4 = some r0 → Met l yX5_writeNode wsX5_writeNode (gR rf rn) (va_Pc [.ref (ad 34), .ref (ad x1), .int x2, .int x3, .int x4] (gP shC D cy ad M)) (gQv shC D cy ad r0) 0 0 (gA shC ad)) (M : gMem) (x1 : Nat) (hL1 : isL x1) (x2 : Int32) (x3 : Int32) (x4 : Int32) (r0 : gMem) (hm : mX5_writeNode_b rec M x1 x2 x3 x4 = some r0) : Met l yX5_writeNode wsX5_writeNode (gR (rf + 4) (rn + 105)) (va_Pc [.ref (ad 34), .ref (ad x1), .int x2, .int x3, .int x4] (gP shC D cy ad M)) (gQv shC D cy ad r0) 0 0 (gA shC ad) := by
  refine gEnter (cc := cX5_writeNode) (maxL := 6) (ret := none) (by decide) rfl (Nat.le_of_ble_eq_true rfl) ?_
  intro p e s m below meth c ls S hr hlk C hl
  have S : CallFix p m c cX5_writeNode 6 s _ wsX5_writeNode RX5 := S
  have hl : lv_has ls 6 [(0, .ref (ad 34)), (1, .ref (ad x1)), (2, .int x2), (3, .int x3), (4, .int x4)] := hl
  rw [mX5_writeNode_b] at hm
  refine lv_iload_n S.1 S.2.1 dX5_writeNode_0 rfl (lv_at hl 2 rfl) ?_
  refine lv_if_lt (tgt := 19) S.1 S.2.1 dX5_writeNode_1 (by decide) (fun c1 => ?_) (fun c1 => ?_)
  · rw [if_pos c1] at hm
    exact gRetv S hr hlk C (Option.some.inj hm) dX5_writeNode_19
  · rw [if_neg c1] at hm
    refine lv_iload_n S.1 S.2.1 dX5_writeNode_4 rfl (lv_at hl 2 rfl) ?_
    refine lv_aload_n S.1 S.2.1 dX5_writeNode_5 rfl (lv_at hl 0 rfl) ?_
    refine g_get (k := 34) (ci := 4) (f := 6) (v := .int (M.1 34 6))  S C kiX5_writeNode_X5 kfX5_writeNode_30 rfl (by decide) shC_34 rfl rfl dX5_writeNode_6 ?_
    refine lv_icmp_ge (tgt := 19) S.1 S.2.1 dX5_writeNode_9 (by decide) (fun c2 => ?_) (fun c2 => ?_)
    · rw [if_pos c2] at hm
      exact gRetv S hr hlk C (Option.some.inj hm) dX5_writeNode_19
    · rw [if_neg c2] at hm
      refine lv_iload S.1 S.2.1 dX5_writeNode_12 (lv_at hl 4 rfl) ?_
      refine lv_bipush (v := (32 : Int32)) S.1 S.2.1 dX5_writeNode_14 (by decide) ?_
      refine lv_icmp_le (tgt := 20) S.1 S.2.1 dX5_writeNode_16 (by decide) (fun c3 => ?_) (fun c3 => ?_)
      · rw [if_pos c3] at hm
        refine lv_aload_n S.1 S.2.1 dX5_writeNode_20 rfl (lv_at hl 1 rfl) ?_
        refine lv_aload_n S.1 S.2.1 dX5_writeNode_21 rfl (lv_at hl 0 rfl) ?_
        refine g_get (k := 34) (ci := 4) (f := 0) (v := .ref (ad 35))  S C kiX5_writeNode_X5 kfX5_writeNode_11 rfl (by decide) shC_34 rfl rfl dX5_writeNode_22 ?_
        refine lv_iload_n S.1 S.2.1 dX5_writeNode_25 rfl (lv_at hl 2 rfl) ?_
        obtain ⟨h4, hm⟩ := ck_ok hm
        refine g_iald S C (k := 35) shC_35 h4 dX5_writeNode_26 ?_
        refine lv_aload_n S.1 S.2.1 dX5_writeNode_27 rfl (lv_at hl 0 rfl) ?_
        refine g_get (k := 34) (ci := 4) (f := 1) (v := .ref (ad 36))  S C kiX5_writeNode_X5 kfX5_writeNode_15 rfl (by decide) shC_34 rfl rfl dX5_writeNode_28 ?_
        refine lv_iload_n S.1 S.2.1 dX5_writeNode_31 rfl (lv_at hl 2 rfl) ?_
        obtain ⟨h5, hm⟩ := ck_ok hm
        refine g_iald S C (k := 36) shC_36 h5 dX5_writeNode_32 ?_
        refine lv_aload_n S.1 S.2.1 dX5_writeNode_33 rfl (lv_at hl 0 rfl) ?_
        refine g_get (k := 34) (ci := 4) (f := 5) (v := .ref (ad 40))  S C kiX5_writeNode_X5 kfX5_writeNode_27 rfl (by decide) shC_34 rfl rfl dX5_writeNode_34 ?_
        refine lv_iload_n S.1 S.2.1 dX5_writeNode_37 rfl (lv_at hl 2 rfl) ?_
        obtain ⟨h6, hm⟩ := ck_ok hm
        refine g_iald S C (k := 40) shC_40 h6 dX5_writeNode_38 ?_
        refine lv_iload_n S.1 S.2.1 dX5_writeNode_39 rfl (lv_at hl 3 rfl) ?_
        obtain ⟨r7, hcr7, hm⟩ := bd_ok hm
        refine gC_i C (gRS (As := [.ref (ad x1), .int (M.1 35 x2.toNatClampNeg), .int (M.1 36 x2.toNatClampNeg), .int (M.1 40 x2.toNatClampNeg), .int x3]) (rest := []) 5 S C (c_X5_writeIfNeeded l D cy ad M x1 hL1 (M.1 35 x2.toNatClampNeg) (M.1 36 x2.toNatClampNeg) (M.1 40 x2.toNatClampNeg) x3 r7 hcr7) gX5_writeNode_X5_writeIfNeeded rfl (by decide +kernel) (by omega) rfl hl.1 rfl (Nat.le_of_ble_eq_true rfl) dX5_writeNode_40) (fun H locs C => ?_)
        refine lv_istore (lv' := [(5, .int r7.1), (0, .ref (ad 34)), (1, .ref (ad x1)), (2, .int x2), (3, .int x3), (4, .int x4)]) S.1 S.2.1 dX5_writeNode_43 hl (by decide) rfl (fun ls hl => ?_)
        refine lv_aload_n S.1 S.2.1 dX5_writeNode_45 rfl (lv_at hl 1 rfl) ?_
        refine g_get (k := 34) (ci := 4) (f := 3) (v := .ref (ad 38))  S C kiX5_writeNode_X5 kfX5_writeNode_21 rfl (by decide) shC_34 rfl rfl dX5_writeNode_46 ?_
        refine lv_iload_n S.1 S.2.1 dX5_writeNode_49 rfl (lv_at hl 3 rfl) ?_
        obtain ⟨h8, hm⟩ := ck_ok hm
        refine g_iald S C (k := 38) shC_38 h8 dX5_writeNode_50 ?_
        refine lv_iconst (v := (-1 : Int32)) S.1 S.2.1 dX5_writeNode_51 (by decide) ?_
        refine lv_icmp_ne (tgt := 66) S.1 S.2.1 dX5_writeNode_52 (by decide) (fun c9 => ?_) (fun c9 => ?_)
        · rw [if_neg c9] at hm
          exact wX5_writeNode_66 S hr hlk hrec r7.2 _ _ C x1 hL1 x2 x4 r7.1 ls (lv_sub hl [1, 2, 3, 5, 0] rfl) hm
        · rw [if_pos c9] at hm
          refine lv_aload_n S.1 S.2.1 dX5_writeNode_55 rfl (lv_at hl 1 rfl) ?_
          refine g_get (k := 34) (ci := 4) (f := 4) (v := .ref (ad 39))  S C kiX5_writeNode_X5 kfX5_writeNode_24 rfl (by decide) shC_34 rfl rfl dX5_writeNode_56 ?_
          refine lv_iload_n S.1 S.2.1 dX5_writeNode_59 rfl (lv_at hl 3 rfl) ?_
          obtain ⟨h10, hm⟩ := ck_ok hm
          refine g_iald S C (k := 39) shC_39 h10 dX5_writeNode_60 ?_
          refine lv_iconst (v := (-1 : Int32)) S.1 S.2.1 dX5_writeNode_61 (by decide) ?_
          refine lv_icmp_ne (tgt := 66) S.1 S.2.1 dX5_writeNode_62 (by decide) (fun c11 => ?_) (fun c11 => ?_)
          · rw [if_neg c11] at hm
            exact wX5_writeNode_66 S hr hlk hrec r7.2 _ _ C x1 hL1 x2 x4 r7.1 ls (lv_sub hl [1, 2, 3, 5, 0] rfl) hm
          · rw [if_pos c11] at hm
            exact gRetv S hr hlk C (Option.some.inj hm) dX5_writeNode_65
      · rw [if_neg c3] at hm
        exact gRetv S hr hlk C (Option.some.inj hm) dX5_writeNode_19
def mX5_writeNode : Nat → gMem → Nat → Int32 → Int32 → Int32 → Option gMem
  | 0, _, _, _, _, _ => none
  | d + 1, M, x1, x2, x3, x4 => mX5_writeNode_b (mX5_writeNode d) M x1 x2 x3 x4
set_option maxHeartbeats 4000000 in
set_option maxRecDepth 100000 in
theorem c_X5_writeNode (l : Launch) (D : va_G) (cy : gCy) (ad : Nat → Nat) : ∀ (d : Nat) (M : gMem) (x1 : Nat) (hL1 : isL x1) (x2 : Int32) (x3 : Int32) (x4 : Int32) (r0 : gMem), mX5_writeNode d M x1 x2 x3 x4 = some r0 → Met l yX5_writeNode wsX5_writeNode (gR (d * 4) (d * 105)) (va_Pc [.ref (ad 34), .ref (ad x1), .int x2, .int x3, .int x4] (gP shC D cy ad M)) (gQv shC D cy ad r0) 0 0 (gA shC ad) := by
  intro d
  induction d with
  | zero => intro M x1 hL1 x2 x3 x4 r0 hm; exact absurd hm (by simp [mX5_writeNode])
  | succ d ih =>
    intro M x1 hL1 x2 x3 x4 r0 hm
    rw [mX5_writeNode] at hm
    rw [Nat.succ_mul, Nat.succ_mul]
    exact c_X5_writeNode_b l D cy ad (mX5_writeNode d) _ _ (fun M x1 hL1 x2 x3 x4 r0 hm => ih M x1 hL1 x2 x3 x4 r0 hm) M x1 hL1 x2 x3 x4 r0 hm
def mX5_writeLeast (M : gMem) (x1 : Nat) : Option gMem := (mX2_clear M x1).bind fun r1 => (mX5_writeNode 40 r1 x1 (0 : Int32) (16 : Int32) (0 : Int32)).bind fun r2 => some r2
set_option maxHeartbeats 4000000 in
set_option maxRecDepth 100000 in
theorem c_X5_writeLeast (l : Launch) (D : va_G) (cy : gCy) (ad : Nat → Nat) (M : gMem) (x1 : Nat) (hL1 : isL x1) (r0 : gMem) (hm : mX5_writeLeast M x1 = some r0) : Met l yX5_writeLeast wsX5_writeLeast (gR 161 4225) (va_Pc [.ref (ad 34), .ref (ad x1)] (gP shC D cy ad M)) (gQv shC D cy ad r0) 0 0 (gA shC ad) := by
  refine gEnter (cc := cX5_writeLeast) (maxL := 2) (ret := none) (by decide) rfl (Nat.le_of_ble_eq_true rfl) ?_
  intro p e s m below meth c ls S hr hlk C hl
  have S : CallFix p m c cX5_writeLeast 2 s _ wsX5_writeLeast RX5 := S
  have hl : lv_has ls 2 [(0, .ref (ad 34)), (1, .ref (ad x1))] := hl
  rw [mX5_writeLeast] at hm
  refine lv_aload_n S.1 S.2.1 dX5_writeLeast_0 rfl (lv_at hl 1 rfl) ?_
  obtain ⟨r1, hcr1, hm⟩ := bd_ok hm
  refine gC_v C (gRV (k := x1) (ci := 2) (r := (RX2, TX2, 5)) (As := []) (rest := []) 0 S C (c_X2_clear l D cy ad M x1 hL1 r1 hcr1) gX5_writeLeast_X2_clear rfl (by decide +kernel) (by decide) hL1.1 rfl rfl rfl hl.1 rfl (Nat.le_of_ble_eq_true rfl) dX5_writeLeast_1) (fun H locs C => ?_)
  refine lv_aload_n S.1 S.2.1 dX5_writeLeast_4 rfl (lv_at hl 0 rfl) ?_
  refine lv_aload_n S.1 S.2.1 dX5_writeLeast_5 rfl (lv_at hl 1 rfl) ?_
  refine lv_iconst (v := (0 : Int32)) S.1 S.2.1 dX5_writeLeast_6 (by decide) ?_
  refine lv_bipush (v := (16 : Int32)) S.1 S.2.1 dX5_writeLeast_7 (by decide) ?_
  refine lv_iconst (v := (0 : Int32)) S.1 S.2.1 dX5_writeLeast_9 (by decide) ?_
  obtain ⟨r2, hcr2, hm⟩ := bd_ok hm
  refine gC_v C (gRV (k := 34) (ci := 4) (r := (RX5, TX5, 7)) (As := [.ref (ad x1), .int (0 : Int32), .int (16 : Int32), .int (0 : Int32)]) (rest := []) 4 S C (c_X5_writeNode l D cy ad 40 r1 x1 hL1 (0 : Int32) (16 : Int32) (0 : Int32) r2 hcr2) gX5_writeLeast_X5_writeNode rfl (by decide +kernel) (by decide) shC_34 rfl rfl rfl hl.1 rfl (Nat.le_of_ble_eq_true rfl) dX5_writeLeast_10) (fun H locs C => ?_)
  exact gRetv S hr hlk C (Option.some.inj hm) dX5_writeLeast_13
