theorem kiX4_nodesAt_X2 : ∀ w ∈ wsX20, w ∈ wsX4_nodesAt := by decide +kernel
theorem kfX4_nodesAt_15 : Cond.fieldLink RX4 15 "PrefixLeader$Lines" "size" "I" ∈ wsX4_nodesAt := by decide +kernel
theorem kfX4_nodesAt_21 : Cond.fieldLink RX4 21 "PrefixLeader$Lines" "address" "[I" ∈ wsX4_nodesAt := by decide +kernel
theorem knX4_nodesAt_X7_maski : Cond.initialized yX7_mask.cls ∈ wsX4_nodesAt := by decide +kernel
theorem knX4_nodesAt_X7_masks : Cond.static yX7_mask ∈ wsX4_nodesAt := by decide +kernel
theorem kfX4_nodesAt_29 : Cond.fieldLink RX4 29 "PrefixLeader$Lines" "bits" "[I" ∈ wsX4_nodesAt := by decide +kernel
theorem kiX4_deepest_X2 : ∀ w ∈ wsX20, w ∈ wsX4_deepest := by decide +kernel
theorem kfX4_deepest_15 : Cond.fieldLink RX4 15 "PrefixLeader$Lines" "size" "I" ∈ wsX4_deepest := by decide +kernel
theorem kfX4_deepest_29 : Cond.fieldLink RX4 29 "PrefixLeader$Lines" "bits" "[I" ∈ wsX4_deepest := by decide +kernel
theorem kiX4_firstDeepest_X2 : ∀ w ∈ wsX20, w ∈ wsX4_firstDeepest := by decide +kernel
theorem kfX4_firstDeepest_15 : Cond.fieldLink RX4 15 "PrefixLeader$Lines" "size" "I" ∈ wsX4_firstDeepest := by decide +kernel
theorem kfX4_firstDeepest_29 : Cond.fieldLink RX4 29 "PrefixLeader$Lines" "bits" "[I" ∈ wsX4_firstDeepest := by decide +kernel
theorem kfX4_firstDeepest_21 : Cond.fieldLink RX4 21 "PrefixLeader$Lines" "address" "[I" ∈ wsX4_firstDeepest := by decide +kernel
theorem knX4_firstDeepest_X7_maski : Cond.initialized yX7_mask.cls ∈ wsX4_firstDeepest := by decide +kernel
theorem knX4_firstDeepest_X7_masks : Cond.static yX7_mask ∈ wsX4_firstDeepest := by decide +kernel
theorem knX4_firstDeepest_X7_widei : Cond.initialized yX7_wide.cls ∈ wsX4_firstDeepest := by decide +kernel
theorem knX4_firstDeepest_X7_wides : Cond.static yX7_wide ∈ wsX4_firstDeepest := by decide +kernel
theorem kiX4_hasNode_X2 : ∀ w ∈ wsX20, w ∈ wsX4_hasNode := by decide +kernel
theorem kfX4_hasNode_15 : Cond.fieldLink RX4 15 "PrefixLeader$Lines" "size" "I" ∈ wsX4_hasNode := by decide +kernel
theorem kfX4_hasNode_29 : Cond.fieldLink RX4 29 "PrefixLeader$Lines" "bits" "[I" ∈ wsX4_hasNode := by decide +kernel
theorem kfX4_hasNode_21 : Cond.fieldLink RX4 21 "PrefixLeader$Lines" "address" "[I" ∈ wsX4_hasNode := by decide +kernel
theorem knX4_hasNode_X7_beginsi : Cond.initialized yX7_begins.cls ∈ wsX4_hasNode := by decide +kernel
theorem knX4_hasNode_X7_beginss : Cond.static yX7_begins ∈ wsX4_hasNode := by decide +kernel
theorem knX4_stepsOf_X7_maski : Cond.initialized yX7_mask.cls ∈ wsX4_stepsOf := by decide +kernel
theorem knX4_stepsOf_X7_masks : Cond.static yX7_mask ∈ wsX4_stepsOf := by decide +kernel
def mX4_nodesAt_7 : Nat → gMem → Nat → Int32 → Int32 → Int32 → Int32 → Option Int32
  | 0, _, _, _, _, _, _ => none
  | n + 1, M, x0, x1, x2, x3, x4 => if (M.1 x0 4) ≤ x4 then (some x2) else (ck (inb x4 (lnOf x0)) <| (mX7_mask x1).bind fun r3 => nmd ((M.1 (x0 + 1) x4.toNatClampNeg) &&& r3) fun y4 => ck (inb x4 (lnOf x0)) <| if (M.1 (x0 + 2) x4.toNatClampNeg) ≤ x1 then (nmd (x4 + (1 : Int32)) fun y7 => mX4_nodesAt_7 n M x0 x1 x2 x3 y7) else (if x2 = 0 then (nmd (x2 + (1 : Int32)) fun y9 => nmd (x4 + (1 : Int32)) fun y10 => mX4_nodesAt_7 n M x0 x1 y9 y4 y10) else (if y4 = x3 then (nmd (x4 + (1 : Int32)) fun y12 => mX4_nodesAt_7 n M x0 x1 x2 x3 y12) else (nmd (x2 + (1 : Int32)) fun y13 => nmd (x4 + (1 : Int32)) fun y14 => mX4_nodesAt_7 n M x0 x1 y13 y4 y14))))
def mX4_nodesAt (M : gMem) (x0 : Nat) (x1 : Int32) : Option Int32 := mX4_nodesAt_7 FU M x0 x1 (0 : Int32) (0 : Int32) (0 : Int32)
set_option maxHeartbeats 4000000 in
set_option maxRecDepth 100000 in
theorem wX4_nodesAt_7 {p : Program} {l : Launch} {e : Env} {s : State} {m : MethodId} {args : Array Value} {below : List Frame} {meth : Method} {c : Code} {D : va_G} {cy : gCy} {ad : Nat → Nat} {M : gMem} {r0 : Int32} (S : CallFix p m c cX4_nodesAt 6 s args wsX4_nodesAt RX4) (hr : meth.sig.returnType = (some .int)) (hlk : meth.locks = false) : ∀ (n : Nat), ∀ (H : Heap) (locs : List Loc), gW shC D cy ad s s.heap M H locs → ∀ (x0 : Nat) (hL0 : isL x0) (x1 : Int32) (x2 : Int32) (x3 : Int32) (x4 : Int32), ∀ (ls : Array Slot), lv_has ls 6 [(0, .ref (ad x0)), (1, .int x1), (2, .int x2), (3, .int x3), (4, .int x4)] → mX4_nodesAt_7 n M x0 x1 x2 x3 x4 = some r0 → W p l e (gR 2 43) s m args below meth c H locs 0 0 (MQ below (gQi shC D cy ad r0 M) args s 0 0 (gA shC ad)) (F0 m 7 ls []) := by
  intro n
  induction n with
  | zero => intro H locs C x0 hL0 x1 x2 x3 x4 ls hl hm; exact absurd hm (by simp [mX4_nodesAt_7])
  | succ n ih =>
    intro H locs C x0 hL0 x1 x2 x3 x4 ls hl hm
    rw [mX4_nodesAt_7] at hm
    refine lv_iload S.1 S.2.1 dX4_nodesAt_7 (lv_at hl 4 rfl) ?_
    refine lv_aload_n S.1 S.2.1 dX4_nodesAt_9 rfl (lv_at hl 0 rfl) ?_
    refine g_get (k := x0) (ci := 2) (f := 4) (v := .int (M.1 x0 4))  S C kiX4_nodesAt_X2 kfX4_nodesAt_15 rfl (by decide) hL0.1 rfl rfl dX4_nodesAt_10 ?_
    refine lv_icmp_ge (tgt := 63) S.1 S.2.1 dX4_nodesAt_13 (by decide) (fun c1 => ?_) (fun c1 => ?_)
    · rw [if_pos c1] at hm
      refine lv_iload_n S.1 S.2.1 dX4_nodesAt_63 rfl (lv_at hl 2 rfl) ?_
      exact gReti S hr hlk C (Option.some.inj hm) rfl dX4_nodesAt_64
    · rw [if_neg c1] at hm
      refine lv_aload_n S.1 S.2.1 dX4_nodesAt_16 rfl (lv_at hl 0 rfl) ?_
      refine g_get (k := x0) (ci := 2) (f := 0) (v := .ref (ad (x0 + 1)))  S C kiX4_nodesAt_X2 kfX4_nodesAt_21 rfl (by decide) hL0.1 rfl rfl dX4_nodesAt_17 ?_
      refine lv_iload S.1 S.2.1 dX4_nodesAt_20 (lv_at hl 4 rfl) ?_
      obtain ⟨h2, hm⟩ := ck_ok hm
      refine g_iald S C (k := (x0 + 1)) (hL0).2.1 h2 dX4_nodesAt_22 ?_
      refine lv_iload_n S.1 S.2.1 dX4_nodesAt_23 rfl (lv_at hl 1 rfl) ?_
      obtain ⟨r3, hcr3, hm⟩ := bd_ok hm
      refine gC_i C (gRSN (host := "PrefixLeader") (As := [.int x1]) (rest := [.int (M.1 (x0 + 1) x4.toNatClampNeg)]) 1 S C (c_X7_mask l D cy ad M x1 r3 hcr3) gX4_nodesAt_X7_mask_n25 rfl (by decide +kernel) knX4_nodesAt_X7_maski knX4_nodesAt_X7_masks (by decide +kernel) (by decide) rfl hl.1 rfl (Nat.le_of_ble_eq_true rfl) dX4_nodesAt_24) (fun H locs C => ?_)
      refine lv_iand S.1 S.2.1 dX4_nodesAt_27 ?_
      obtain ⟨y4, ey4, hm⟩ := nmd_ok hm
      refine gNmI ey4 ?_
      refine lv_istore (lv' := [(5, .int y4), (0, .ref (ad x0)), (1, .int x1), (2, .int x2), (3, .int x3), (4, .int x4)]) S.1 S.2.1 dX4_nodesAt_28 hl (by decide) rfl (fun ls hl => ?_)
      refine lv_aload_n S.1 S.2.1 dX4_nodesAt_30 rfl (lv_at hl 1 rfl) ?_
      refine g_get (k := x0) (ci := 2) (f := 1) (v := .ref (ad (x0 + 2)))  S C kiX4_nodesAt_X2 kfX4_nodesAt_29 rfl (by decide) hL0.1 rfl rfl dX4_nodesAt_31 ?_
      refine lv_iload S.1 S.2.1 dX4_nodesAt_34 (lv_at hl 5 rfl) ?_
      obtain ⟨h5, hm⟩ := ck_ok hm
      refine g_iald S C (k := (x0 + 2)) (hL0).2.2.1 h5 dX4_nodesAt_36 ?_
      refine lv_iload_n S.1 S.2.1 dX4_nodesAt_37 rfl (lv_at hl 2 rfl) ?_
      refine lv_icmp_le (tgt := 57) S.1 S.2.1 dX4_nodesAt_38 (by decide) (fun c6 => ?_) (fun c6 => ?_)
      · rw [if_pos c6] at hm
        obtain ⟨y7, ey7, hm⟩ := nmd_ok hm
        refine lv_iinc (v := y7) (lv' := [(4, .int y7), (5, .int y4), (0, .ref (ad x0)), (1, .int x1), (2, .int x2), (3, .int x3)]) S.1 S.2.1 dX4_nodesAt_57 hl (k := 5) rfl (by rw [ey7]; rfl) (by decide) rfl (fun ls hl => ?_)
        refine lv_goto (tgt := 7) S.1 S.2.1 dX4_nodesAt_60 (by decide) ?_
        exact ih _ _ C x0 hL0 x1 x2 x3 y7 ls (lv_sub hl [2, 3, 4, 5, 0] rfl) hm
      · rw [if_neg c6] at hm
        refine lv_iload_n S.1 S.2.1 dX4_nodesAt_41 rfl (lv_at hl 3 rfl) ?_
        refine lv_if_eq (tgt := 51) S.1 S.2.1 dX4_nodesAt_42 (by decide) (fun c8 => ?_) (fun c8 => ?_)
        · rw [if_pos c8] at hm
          obtain ⟨y9, ey9, hm⟩ := nmd_ok hm
          refine lv_iinc (v := y9) (lv' := [(2, .int y9), (5, .int y4), (0, .ref (ad x0)), (1, .int x1), (3, .int x3), (4, .int x4)]) S.1 S.2.1 dX4_nodesAt_51 hl (k := 3) rfl (by rw [ey9]; rfl) (by decide) rfl (fun ls hl => ?_)
          refine lv_iload S.1 S.2.1 dX4_nodesAt_54 (lv_at hl 1 rfl) ?_
          refine lv_istore_n (lv' := [(3, .int y4), (2, .int y9), (5, .int y4), (0, .ref (ad x0)), (1, .int x1), (4, .int x4)]) S.1 S.2.1 dX4_nodesAt_56 rfl hl (by decide) rfl (fun ls hl => ?_)
          obtain ⟨y10, ey10, hm⟩ := nmd_ok hm
          refine lv_iinc (v := y10) (lv' := [(4, .int y10), (3, .int y4), (2, .int y9), (5, .int y4), (0, .ref (ad x0)), (1, .int x1)]) S.1 S.2.1 dX4_nodesAt_57 hl (k := 5) rfl (by rw [ey10]; rfl) (by decide) rfl (fun ls hl => ?_)
          refine lv_goto (tgt := 7) S.1 S.2.1 dX4_nodesAt_60 (by decide) ?_
          exact ih _ _ C x0 hL0 x1 y9 y4 y10 ls (lv_sub hl [4, 5, 2, 1, 0] rfl) hm
        · rw [if_neg c8] at hm
          refine lv_iload S.1 S.2.1 dX4_nodesAt_45 (lv_at hl 0 rfl) ?_
          refine lv_iload_n S.1 S.2.1 dX4_nodesAt_47 rfl (lv_at hl 4 rfl) ?_
          refine lv_icmp_eq (tgt := 57) S.1 S.2.1 dX4_nodesAt_48 (by decide) (fun c11 => ?_) (fun c11 => ?_)
          · rw [if_pos c11] at hm
            obtain ⟨y12, ey12, hm⟩ := nmd_ok hm
            refine lv_iinc (v := y12) (lv' := [(4, .int y12), (5, .int y4), (0, .ref (ad x0)), (1, .int x1), (2, .int x2), (3, .int x3)]) S.1 S.2.1 dX4_nodesAt_57 hl (k := 5) rfl (by rw [ey12]; rfl) (by decide) rfl (fun ls hl => ?_)
            refine lv_goto (tgt := 7) S.1 S.2.1 dX4_nodesAt_60 (by decide) ?_
            exact ih _ _ C x0 hL0 x1 x2 x3 y12 ls (lv_sub hl [2, 3, 4, 5, 0] rfl) hm
          · rw [if_neg c11] at hm
            obtain ⟨y13, ey13, hm⟩ := nmd_ok hm
            refine lv_iinc (v := y13) (lv' := [(2, .int y13), (5, .int y4), (0, .ref (ad x0)), (1, .int x1), (3, .int x3), (4, .int x4)]) S.1 S.2.1 dX4_nodesAt_51 hl (k := 3) rfl (by rw [ey13]; rfl) (by decide) rfl (fun ls hl => ?_)
            refine lv_iload S.1 S.2.1 dX4_nodesAt_54 (lv_at hl 1 rfl) ?_
            refine lv_istore_n (lv' := [(3, .int y4), (2, .int y13), (5, .int y4), (0, .ref (ad x0)), (1, .int x1), (4, .int x4)]) S.1 S.2.1 dX4_nodesAt_56 rfl hl (by decide) rfl (fun ls hl => ?_)
            obtain ⟨y14, ey14, hm⟩ := nmd_ok hm
            refine lv_iinc (v := y14) (lv' := [(4, .int y14), (3, .int y4), (2, .int y13), (5, .int y4), (0, .ref (ad x0)), (1, .int x1)]) S.1 S.2.1 dX4_nodesAt_57 hl (k := 5) rfl (by rw [ey14]; rfl) (by decide) rfl (fun ls hl => ?_)
            refine lv_goto (tgt := 7) S.1 S.2.1 dX4_nodesAt_60 (by decide) ?_
            exact ih _ _ C x0 hL0 x1 y13 y4 y14 ls (lv_sub hl [4, 5, 2, 1, 0] rfl) hm
set_option maxHeartbeats 4000000 in
set_option maxRecDepth 100000 in
theorem c_X4_nodesAt (l : Launch) (D : va_G) (cy : gCy) (ad : Nat → Nat) (M : gMem) (x0 : Nat) (hL0 : isL x0) (x1 : Int32) (r0 : Int32) (hm : mX4_nodesAt M x0 x1 = some r0) : Met l yX4_nodesAt wsX4_nodesAt (gR 2 43) (va_Pc [.ref (ad x0), .int x1] (gP shC D cy ad M)) (gQi shC D cy ad r0 M) 0 0 (gA shC ad) := by
  refine gEnter (cc := cX4_nodesAt) (maxL := 6) (ret := (some .int)) (by decide) rfl (Nat.le_of_ble_eq_true rfl) ?_
  intro p e s m below meth c ls S hr hlk C hl
  have S : CallFix p m c cX4_nodesAt 6 s _ wsX4_nodesAt RX4 := S
  have hl : lv_has ls 6 [(0, .ref (ad x0)), (1, .int x1)] := hl
  rw [mX4_nodesAt] at hm
  refine lv_iconst (v := (0 : Int32)) S.1 S.2.1 dX4_nodesAt_0 (by decide) ?_
  refine lv_istore_n (lv' := [(2, .int (0 : Int32)), (0, .ref (ad x0)), (1, .int x1)]) S.1 S.2.1 dX4_nodesAt_1 rfl hl (by decide) rfl (fun ls hl => ?_)
  refine lv_iconst (v := (0 : Int32)) S.1 S.2.1 dX4_nodesAt_2 (by decide) ?_
  refine lv_istore_n (lv' := [(3, .int (0 : Int32)), (2, .int (0 : Int32)), (0, .ref (ad x0)), (1, .int x1)]) S.1 S.2.1 dX4_nodesAt_3 rfl hl (by decide) rfl (fun ls hl => ?_)
  refine lv_iconst (v := (0 : Int32)) S.1 S.2.1 dX4_nodesAt_4 (by decide) ?_
  refine lv_istore (lv' := [(4, .int (0 : Int32)), (3, .int (0 : Int32)), (2, .int (0 : Int32)), (0, .ref (ad x0)), (1, .int x1)]) S.1 S.2.1 dX4_nodesAt_5 hl (by decide) rfl (fun ls hl => ?_)
  exact wX4_nodesAt_7 S hr hlk FU _ _ C x0 hL0 x1 (0 : Int32) (0 : Int32) (0 : Int32) ls (lv_sub hl [3, 4, 2, 1, 0] rfl) hm
def mX4_nodesOf_5 : Nat → gMem → Nat → Int32 → Int32 → Option Int32
  | 0, _, _, _, _ => none
  | n + 1, M, x0, x1, x2 => if (30 : Int32) < x2 then (some x1) else ((mX4_nodesAt M x0 x2).bind fun r2 => nmd (x1 + r2) fun y3 => nmd (x2 + (6 : Int32)) fun y4 => mX4_nodesOf_5 n M x0 y3 y4)
def mX4_nodesOf (M : gMem) (x0 : Nat) : Option Int32 := mX4_nodesOf_5 FU M x0 (1 : Int32) (6 : Int32)
set_option maxHeartbeats 4000000 in
set_option maxRecDepth 100000 in
theorem wX4_nodesOf_5 {p : Program} {l : Launch} {e : Env} {s : State} {m : MethodId} {args : Array Value} {below : List Frame} {meth : Method} {c : Code} {D : va_G} {cy : gCy} {ad : Nat → Nat} {M : gMem} {r0 : Int32} (S : CallFix p m c cX4_nodesOf 3 s args wsX4_nodesOf RX4) (hr : meth.sig.returnType = (some .int)) (hlk : meth.locks = false) : ∀ (n : Nat), ∀ (H : Heap) (locs : List Loc), gW shC D cy ad s s.heap M H locs → ∀ (x0 : Nat) (hL0 : isL x0) (x1 : Int32) (x2 : Int32), ∀ (ls : Array Slot), lv_has ls 3 [(0, .ref (ad x0)), (1, .int x1), (2, .int x2)] → mX4_nodesOf_5 n M x0 x1 x2 = some r0 → W p l e (gR 3 68) s m args below meth c H locs 0 0 (MQ below (gQi shC D cy ad r0 M) args s 0 0 (gA shC ad)) (F0 m 5 ls []) := by
  intro n
  induction n with
  | zero => intro H locs C x0 hL0 x1 x2 ls hl hm; exact absurd hm (by simp [mX4_nodesOf_5])
  | succ n ih =>
    intro H locs C x0 hL0 x1 x2 ls hl hm
    rw [mX4_nodesOf_5] at hm
    refine lv_iload_n S.1 S.2.1 dX4_nodesOf_5 rfl (lv_at hl 2 rfl) ?_
    refine lv_bipush (v := (30 : Int32)) S.1 S.2.1 dX4_nodesOf_6 (by decide) ?_
    refine lv_icmp_gt (tgt := 25) S.1 S.2.1 dX4_nodesOf_8 (by decide) (fun c1 => ?_) (fun c1 => ?_)
    · rw [if_pos c1] at hm
      refine lv_iload_n S.1 S.2.1 dX4_nodesOf_25 rfl (lv_at hl 1 rfl) ?_
      exact gReti S hr hlk C (Option.some.inj hm) rfl dX4_nodesOf_26
    · rw [if_neg c1] at hm
      refine lv_iload_n S.1 S.2.1 dX4_nodesOf_11 rfl (lv_at hl 1 rfl) ?_
      refine lv_aload_n S.1 S.2.1 dX4_nodesOf_12 rfl (lv_at hl 0 rfl) ?_
      refine lv_iload_n S.1 S.2.1 dX4_nodesOf_13 rfl (lv_at hl 2 rfl) ?_
      obtain ⟨r2, hcr2, hm⟩ := bd_ok hm
      refine gC_i C (gRS (As := [.ref (ad x0), .int x2]) (rest := [.int x1]) 2 S C (c_X4_nodesAt l D cy ad M x0 hL0 x2 r2 hcr2) gX4_nodesOf_X4_nodesAt rfl (by decide +kernel) (by decide) rfl hl.1 rfl (Nat.le_of_ble_eq_true rfl) dX4_nodesOf_14) (fun H locs C => ?_)
      refine lv_iadd S.1 S.2.1 dX4_nodesOf_17 ?_
      obtain ⟨y3, ey3, hm⟩ := nmd_ok hm
      refine gNmI ey3 ?_
      refine lv_istore_n (lv' := [(1, .int y3), (0, .ref (ad x0)), (2, .int x2)]) S.1 S.2.1 dX4_nodesOf_18 rfl hl (by decide) rfl (fun ls hl => ?_)
      obtain ⟨y4, ey4, hm⟩ := nmd_ok hm
      refine lv_iinc (v := y4) (lv' := [(2, .int y4), (1, .int y3), (0, .ref (ad x0))]) S.1 S.2.1 dX4_nodesOf_19 hl (k := 2) rfl (by rw [ey4]; rfl) (by decide) rfl (fun ls hl => ?_)
      refine lv_goto (tgt := 5) S.1 S.2.1 dX4_nodesOf_22 (by decide) ?_
      exact ih _ _ C x0 hL0 y3 y4 ls (lv_sub hl [2, 1, 0] rfl) hm
set_option maxHeartbeats 4000000 in
set_option maxRecDepth 100000 in
theorem c_X4_nodesOf (l : Launch) (D : va_G) (cy : gCy) (ad : Nat → Nat) (M : gMem) (x0 : Nat) (hL0 : isL x0) (r0 : Int32) (hm : mX4_nodesOf M x0 = some r0) : Met l yX4_nodesOf wsX4_nodesOf (gR 3 68) (va_Pc [.ref (ad x0)] (gP shC D cy ad M)) (gQi shC D cy ad r0 M) 0 0 (gA shC ad) := by
  refine gEnter (cc := cX4_nodesOf) (maxL := 3) (ret := (some .int)) (by decide) rfl (Nat.le_of_ble_eq_true rfl) ?_
  intro p e s m below meth c ls S hr hlk C hl
  have S : CallFix p m c cX4_nodesOf 3 s _ wsX4_nodesOf RX4 := S
  have hl : lv_has ls 3 [(0, .ref (ad x0))] := hl
  rw [mX4_nodesOf] at hm
  refine lv_iconst (v := (1 : Int32)) S.1 S.2.1 dX4_nodesOf_0 (by decide) ?_
  refine lv_istore_n (lv' := [(1, .int (1 : Int32)), (0, .ref (ad x0))]) S.1 S.2.1 dX4_nodesOf_1 rfl hl (by decide) rfl (fun ls hl => ?_)
  refine lv_bipush (v := (6 : Int32)) S.1 S.2.1 dX4_nodesOf_2 (by decide) ?_
  refine lv_istore_n (lv' := [(2, .int (6 : Int32)), (1, .int (1 : Int32)), (0, .ref (ad x0))]) S.1 S.2.1 dX4_nodesOf_4 rfl hl (by decide) rfl (fun ls hl => ?_)
  exact wX4_nodesOf_5 S hr hlk FU _ _ C x0 hL0 (1 : Int32) (6 : Int32) ls (lv_sub hl [2, 1, 0] rfl) hm
def mX4_deepest_12 (k4 : gMem → Nat → Int32 → Int32 → Option Int32) : Nat → gMem → Nat → Int32 → Int32 → Option Int32
  | 0, _, _, _, _ => none
  | n + 1, M, x0, x1, x2 => if (30 : Int32) ≤ x1 then (nmd (x2 + (1 : Int32)) fun y2 => k4 M x0 x1 y2) else (ck (inb x2 (lnOf x0)) <| if (M.1 (x0 + 2) x2.toNatClampNeg) ≤ (x1 + (6 : Int32)) then (nmd (x2 + (1 : Int32)) fun y5 => k4 M x0 x1 y5) else (nmd (x1 + (6 : Int32)) fun y6 => mX4_deepest_12 k4 n M x0 y6 x2))
def mX4_deepest_4 : Nat → gMem → Nat → Int32 → Int32 → Option Int32
  | 0, _, _, _, _ => none
  | n + 1, M, x0, x1, x2 => if (M.1 x0 4) ≤ x2 then (some x1) else (mX4_deepest_12 (mX4_deepest_4 n) FU M x0 x1 x2)
def mX4_deepest (M : gMem) (x0 : Nat) : Option Int32 := mX4_deepest_4 FU M x0 (0 : Int32) (0 : Int32)
set_option maxHeartbeats 4000000 in
set_option maxRecDepth 100000 in
theorem wX4_deepest_12 {p : Program} {l : Launch} {e : Env} {s : State} {m : MethodId} {args : Array Value} {below : List Frame} {meth : Method} {c : Code} {D : va_G} {cy : gCy} {ad : Nat → Nat} {M : gMem} {r0 : Int32} (S : CallFix p m c cX4_deepest 3 s args wsX4_deepest RX4) (hr : meth.sig.returnType = (some .int)) (hlk : meth.locks = false) {k4 : gMem → Nat → Int32 → Int32 → Option Int32} (kk4 : ∀ (H : Heap) (locs : List Loc), gW shC D cy ad s s.heap M H locs → ∀ (x0 : Nat) (hL0 : isL x0) (x1 : Int32) (x2 : Int32), ∀ (ls : Array Slot), lv_has ls 3 [(0, .ref (ad x0)), (1, .int x1), (2, .int x2)] → k4 M x0 x1 x2 = some r0 → W p l e (gR 0 0) s m args below meth c H locs 0 0 (MQ below (gQi shC D cy ad r0 M) args s 0 0 (gA shC ad)) (F0 m 4 ls [])) : ∀ (n : Nat), ∀ (H : Heap) (locs : List Loc), gW shC D cy ad s s.heap M H locs → ∀ (x0 : Nat) (hL0 : isL x0) (x1 : Int32) (x2 : Int32), ∀ (ls : Array Slot), lv_has ls 3 [(0, .ref (ad x0)), (1, .int x1), (2, .int x2)] → mX4_deepest_12 k4 n M x0 x1 x2 = some r0 → W p l e (gR 0 0) s m args below meth c H locs 0 0 (MQ below (gQi shC D cy ad r0 M) args s 0 0 (gA shC ad)) (F0 m 12 ls []) := by
  intro n
  induction n with
  | zero => intro H locs C x0 hL0 x1 x2 ls hl hm; exact absurd hm (by simp [mX4_deepest_12])
  | succ n ih =>
    intro H locs C x0 hL0 x1 x2 ls hl hm
    rw [mX4_deepest_12] at hm
    refine lv_iload_n S.1 S.2.1 dX4_deepest_12 rfl (lv_at hl 1 rfl) ?_
    refine lv_bipush (v := (30 : Int32)) S.1 S.2.1 dX4_deepest_13 (by decide) ?_
    refine lv_icmp_ge (tgt := 37) S.1 S.2.1 dX4_deepest_15 (by decide) (fun c1 => ?_) (fun c1 => ?_)
    · rw [if_pos c1] at hm
      obtain ⟨y2, ey2, hm⟩ := nmd_ok hm
      refine lv_iinc (v := y2) (lv' := [(2, .int y2), (0, .ref (ad x0)), (1, .int x1)]) S.1 S.2.1 dX4_deepest_37 hl (k := 2) rfl (by rw [ey2]; rfl) (by decide) rfl (fun ls hl => ?_)
      refine lv_goto (tgt := 4) S.1 S.2.1 dX4_deepest_40 (by decide) ?_
      exact kk4 _ _ C x0 hL0 x1 y2 ls (lv_sub hl [1, 2, 0] rfl) hm
    · rw [if_neg c1] at hm
      refine lv_aload_n S.1 S.2.1 dX4_deepest_18 rfl (lv_at hl 0 rfl) ?_
      refine g_get (k := x0) (ci := 2) (f := 1) (v := .ref (ad (x0 + 2)))  S C kiX4_deepest_X2 kfX4_deepest_29 rfl (by decide) hL0.1 rfl rfl dX4_deepest_19 ?_
      refine lv_iload_n S.1 S.2.1 dX4_deepest_22 rfl (lv_at hl 2 rfl) ?_
      obtain ⟨h3, hm⟩ := ck_ok hm
      refine g_iald S C (k := (x0 + 2)) (hL0).2.2.1 h3 dX4_deepest_23 ?_
      refine lv_iload_n S.1 S.2.1 dX4_deepest_24 rfl (lv_at hl 1 rfl) ?_
      refine lv_bipush (v := (6 : Int32)) S.1 S.2.1 dX4_deepest_25 (by decide) ?_
      refine lv_iadd S.1 S.2.1 dX4_deepest_27 ?_
      refine lv_icmp_le (tgt := 37) S.1 S.2.1 dX4_deepest_28 (by decide) (fun c4 => ?_) (fun c4 => ?_)
      · rw [if_pos c4] at hm
        obtain ⟨y5, ey5, hm⟩ := nmd_ok hm
        refine lv_iinc (v := y5) (lv' := [(2, .int y5), (0, .ref (ad x0)), (1, .int x1)]) S.1 S.2.1 dX4_deepest_37 hl (k := 2) rfl (by rw [ey5]; rfl) (by decide) rfl (fun ls hl => ?_)
        refine lv_goto (tgt := 4) S.1 S.2.1 dX4_deepest_40 (by decide) ?_
        exact kk4 _ _ C x0 hL0 x1 y5 ls (lv_sub hl [1, 2, 0] rfl) hm
      · rw [if_neg c4] at hm
        obtain ⟨y6, ey6, hm⟩ := nmd_ok hm
        refine lv_iinc (v := y6) (lv' := [(1, .int y6), (0, .ref (ad x0)), (2, .int x2)]) S.1 S.2.1 dX4_deepest_31 hl (k := 1) rfl (by rw [ey6]; rfl) (by decide) rfl (fun ls hl => ?_)
        refine lv_goto (tgt := 12) S.1 S.2.1 dX4_deepest_34 (by decide) ?_
        exact ih _ _ C x0 hL0 y6 x2 ls (lv_sub hl [1, 0, 2] rfl) hm
set_option maxHeartbeats 4000000 in
set_option maxRecDepth 100000 in
theorem wX4_deepest_4 {p : Program} {l : Launch} {e : Env} {s : State} {m : MethodId} {args : Array Value} {below : List Frame} {meth : Method} {c : Code} {D : va_G} {cy : gCy} {ad : Nat → Nat} {M : gMem} {r0 : Int32} (S : CallFix p m c cX4_deepest 3 s args wsX4_deepest RX4) (hr : meth.sig.returnType = (some .int)) (hlk : meth.locks = false) : ∀ (n : Nat), ∀ (H : Heap) (locs : List Loc), gW shC D cy ad s s.heap M H locs → ∀ (x0 : Nat) (hL0 : isL x0) (x1 : Int32) (x2 : Int32), ∀ (ls : Array Slot), lv_has ls 3 [(0, .ref (ad x0)), (1, .int x1), (2, .int x2)] → mX4_deepest_4 n M x0 x1 x2 = some r0 → W p l e (gR 0 0) s m args below meth c H locs 0 0 (MQ below (gQi shC D cy ad r0 M) args s 0 0 (gA shC ad)) (F0 m 4 ls []) := by
  intro n
  induction n with
  | zero => intro H locs C x0 hL0 x1 x2 ls hl hm; exact absurd hm (by simp [mX4_deepest_4])
  | succ n ih =>
    intro H locs C x0 hL0 x1 x2 ls hl hm
    rw [mX4_deepest_4] at hm
    refine lv_iload_n S.1 S.2.1 dX4_deepest_4 rfl (lv_at hl 2 rfl) ?_
    refine lv_aload_n S.1 S.2.1 dX4_deepest_5 rfl (lv_at hl 0 rfl) ?_
    refine g_get (k := x0) (ci := 2) (f := 4) (v := .int (M.1 x0 4))  S C kiX4_deepest_X2 kfX4_deepest_15 rfl (by decide) hL0.1 rfl rfl dX4_deepest_6 ?_
    refine lv_icmp_ge (tgt := 43) S.1 S.2.1 dX4_deepest_9 (by decide) (fun c1 => ?_) (fun c1 => ?_)
    · rw [if_pos c1] at hm
      refine lv_iload_n S.1 S.2.1 dX4_deepest_43 rfl (lv_at hl 1 rfl) ?_
      exact gReti S hr hlk C (Option.some.inj hm) rfl dX4_deepest_44
    · rw [if_neg c1] at hm
      exact wX4_deepest_12 S hr hlk ih FU _ _ C x0 hL0 x1 x2 ls (lv_sub hl [0, 1, 2] rfl) hm
set_option maxHeartbeats 4000000 in
set_option maxRecDepth 100000 in
theorem c_X4_deepest (l : Launch) (D : va_G) (cy : gCy) (ad : Nat → Nat) (M : gMem) (x0 : Nat) (hL0 : isL x0) (r0 : Int32) (hm : mX4_deepest M x0 = some r0) : Met l yX4_deepest wsX4_deepest (gR 0 0) (va_Pc [.ref (ad x0)] (gP shC D cy ad M)) (gQi shC D cy ad r0 M) 0 0 (gA shC ad) := by
  refine gEnter (cc := cX4_deepest) (maxL := 3) (ret := (some .int)) (by decide) rfl (Nat.le_of_ble_eq_true rfl) ?_
  intro p e s m below meth c ls S hr hlk C hl
  have S : CallFix p m c cX4_deepest 3 s _ wsX4_deepest RX4 := S
  have hl : lv_has ls 3 [(0, .ref (ad x0))] := hl
  rw [mX4_deepest] at hm
  refine lv_iconst (v := (0 : Int32)) S.1 S.2.1 dX4_deepest_0 (by decide) ?_
  refine lv_istore_n (lv' := [(1, .int (0 : Int32)), (0, .ref (ad x0))]) S.1 S.2.1 dX4_deepest_1 rfl hl (by decide) rfl (fun ls hl => ?_)
  refine lv_iconst (v := (0 : Int32)) S.1 S.2.1 dX4_deepest_2 (by decide) ?_
  refine lv_istore_n (lv' := [(2, .int (0 : Int32)), (1, .int (0 : Int32)), (0, .ref (ad x0))]) S.1 S.2.1 dX4_deepest_3 rfl hl (by decide) rfl (fun ls hl => ?_)
  exact wX4_deepest_4 S hr hlk FU _ _ C x0 hL0 (0 : Int32) (0 : Int32) ls (lv_sub hl [2, 1, 0] rfl) hm
def mX4_stepsDownTo (x0 : Int32) : Option Int32 := ck (nz (6 : Int32)) <| some ((x0 / (6 : Int32)) + (1 : Int32))
set_option maxHeartbeats 4000000 in
set_option maxRecDepth 100000 in
theorem c_X4_stepsDownTo (l : Launch) (D : va_G) (cy : gCy) (ad : Nat → Nat) (M : gMem) (x0 : Int32) (r0 : Int32) (hm : mX4_stepsDownTo x0 = some r0) : Met l yX4_stepsDownTo wsX4_stepsDownTo (gR 0 0) (va_Pc [.int x0] (gP shC D cy ad M)) (gQi shC D cy ad r0 M) 0 0 (gA shC ad) := by
  refine gEnter (cc := cX4_stepsDownTo) (maxL := 1) (ret := (some .int)) (by decide) rfl (Nat.le_of_ble_eq_true rfl) ?_
  intro p e s m below meth c ls S hr hlk C hl
  have S : CallFix p m c cX4_stepsDownTo 1 s _ wsX4_stepsDownTo RX4 := S
  have hl : lv_has ls 1 [(0, .int x0)] := hl
  rw [mX4_stepsDownTo] at hm
  refine lv_iload_n S.1 S.2.1 dX4_stepsDownTo_0 rfl (lv_at hl 0 rfl) ?_
  refine lv_bipush (v := (6 : Int32)) S.1 S.2.1 dX4_stepsDownTo_1 (by decide) ?_
  obtain ⟨h1, hm⟩ := ck_ok hm
  refine lv_idiv S.1 S.2.1 dX4_stepsDownTo_3 (nz_ok h1) ?_
  refine lv_iconst (v := (1 : Int32)) S.1 S.2.1 dX4_stepsDownTo_4 (by decide) ?_
  refine lv_iadd S.1 S.2.1 dX4_stepsDownTo_5 ?_
  exact gReti S hr hlk C (Option.some.inj hm) rfl dX4_stepsDownTo_6
def mX4_firstDeepest_7 : Nat → gMem → Nat → Int32 → Int32 → Option Int64
  | 0, _, _, _, _ => none
  | n + 1, M, x0, x1, x2 => if (M.1 x0 4) ≤ x2 then (some (0 : Int64)) else (ck (inb x2 (lnOf x0)) <| if (M.1 (x0 + 2) x2.toNatClampNeg) ≤ x1 then (nmd (x2 + (1 : Int32)) fun y4 => mX4_firstDeepest_7 n M x0 x1 y4) else (ck (inb x2 (lnOf x0)) <| (mX7_mask x1).bind fun r6 => (mX7_wide ((M.1 (x0 + 1) x2.toNatClampNeg) &&& r6)).bind fun r7 => some r7))
def mX4_firstDeepest (M : gMem) (x0 : Nat) : Option Int64 := (mX4_deepest M x0).bind fun r1 => mX4_firstDeepest_7 FU M x0 r1 (0 : Int32)
set_option maxHeartbeats 4000000 in
set_option maxRecDepth 100000 in
theorem wX4_firstDeepest_7 {p : Program} {l : Launch} {e : Env} {s : State} {m : MethodId} {args : Array Value} {below : List Frame} {meth : Method} {c : Code} {D : va_G} {cy : gCy} {ad : Nat → Nat} {M : gMem} {r0 : Int64} (S : CallFix p m c cX4_firstDeepest 3 s args wsX4_firstDeepest RX4) (hr : meth.sig.returnType = (some .long)) (hlk : meth.locks = false) : ∀ (n : Nat), ∀ (H : Heap) (locs : List Loc), gW shC D cy ad s s.heap M H locs → ∀ (x0 : Nat) (hL0 : isL x0) (x1 : Int32) (x2 : Int32), ∀ (ls : Array Slot), lv_has ls 3 [(0, .ref (ad x0)), (1, .int x1), (2, .int x2)] → mX4_firstDeepest_7 n M x0 x1 x2 = some r0 → W p l e (gR 2 43) s m args below meth c H locs 0 0 (MQ below (gQl shC D cy ad r0 M) args s 0 0 (gA shC ad)) (F0 m 7 ls []) := by
  intro n
  induction n with
  | zero => intro H locs C x0 hL0 x1 x2 ls hl hm; exact absurd hm (by simp [mX4_firstDeepest_7])
  | succ n ih =>
    intro H locs C x0 hL0 x1 x2 ls hl hm
    rw [mX4_firstDeepest_7] at hm
    refine lv_iload_n S.1 S.2.1 dX4_firstDeepest_7 rfl (lv_at hl 2 rfl) ?_
    refine lv_aload_n S.1 S.2.1 dX4_firstDeepest_8 rfl (lv_at hl 0 rfl) ?_
    refine g_get (k := x0) (ci := 2) (f := 4) (v := .int (M.1 x0 4))  S C kiX4_firstDeepest_X2 kfX4_firstDeepest_15 rfl (by decide) hL0.1 rfl rfl dX4_firstDeepest_9 ?_
    refine lv_icmp_ge (tgt := 46) S.1 S.2.1 dX4_firstDeepest_12 (by decide) (fun c1 => ?_) (fun c1 => ?_)
    · rw [if_pos c1] at hm
      refine lv_lconst (v := (0 : Int64)) S.1 S.2.1 dX4_firstDeepest_46 (by decide) ?_
      exact gRetl S hr hlk C (Option.some.inj hm) rfl dX4_firstDeepest_47
    · rw [if_neg c1] at hm
      refine lv_aload_n S.1 S.2.1 dX4_firstDeepest_15 rfl (lv_at hl 0 rfl) ?_
      refine g_get (k := x0) (ci := 2) (f := 1) (v := .ref (ad (x0 + 2)))  S C kiX4_firstDeepest_X2 kfX4_firstDeepest_29 rfl (by decide) hL0.1 rfl rfl dX4_firstDeepest_16 ?_
      refine lv_iload_n S.1 S.2.1 dX4_firstDeepest_19 rfl (lv_at hl 2 rfl) ?_
      obtain ⟨h2, hm⟩ := ck_ok hm
      refine g_iald S C (k := (x0 + 2)) (hL0).2.2.1 h2 dX4_firstDeepest_20 ?_
      refine lv_iload_n S.1 S.2.1 dX4_firstDeepest_21 rfl (lv_at hl 1 rfl) ?_
      refine lv_icmp_le (tgt := 40) S.1 S.2.1 dX4_firstDeepest_22 (by decide) (fun c3 => ?_) (fun c3 => ?_)
      · rw [if_pos c3] at hm
        obtain ⟨y4, ey4, hm⟩ := nmd_ok hm
        refine lv_iinc (v := y4) (lv' := [(2, .int y4), (0, .ref (ad x0)), (1, .int x1)]) S.1 S.2.1 dX4_firstDeepest_40 hl (k := 2) rfl (by rw [ey4]; rfl) (by decide) rfl (fun ls hl => ?_)
        refine lv_goto (tgt := 7) S.1 S.2.1 dX4_firstDeepest_43 (by decide) ?_
        exact ih _ _ C x0 hL0 x1 y4 ls (lv_sub hl [1, 2, 0] rfl) hm
      · rw [if_neg c3] at hm
        refine lv_aload_n S.1 S.2.1 dX4_firstDeepest_25 rfl (lv_at hl 0 rfl) ?_
        refine g_get (k := x0) (ci := 2) (f := 0) (v := .ref (ad (x0 + 1)))  S C kiX4_firstDeepest_X2 kfX4_firstDeepest_21 rfl (by decide) hL0.1 rfl rfl dX4_firstDeepest_26 ?_
        refine lv_iload_n S.1 S.2.1 dX4_firstDeepest_29 rfl (lv_at hl 2 rfl) ?_
        obtain ⟨h5, hm⟩ := ck_ok hm
        refine g_iald S C (k := (x0 + 1)) (hL0).2.1 h5 dX4_firstDeepest_30 ?_
        refine lv_iload_n S.1 S.2.1 dX4_firstDeepest_31 rfl (lv_at hl 1 rfl) ?_
        obtain ⟨r6, hcr6, hm⟩ := bd_ok hm
        refine gC_i C (gRSN (host := "PrefixLeader") (As := [.int x1]) (rest := [.int (M.1 (x0 + 1) x2.toNatClampNeg)]) 1 S C (c_X7_mask l D cy ad M x1 r6 hcr6) gX4_firstDeepest_X7_mask_n25 rfl (by decide +kernel) knX4_firstDeepest_X7_maski knX4_firstDeepest_X7_masks (by decide +kernel) (by decide) rfl hl.1 rfl (Nat.le_of_ble_eq_true rfl) dX4_firstDeepest_32) (fun H locs C => ?_)
        refine lv_iand S.1 S.2.1 dX4_firstDeepest_35 ?_
        obtain ⟨r7, hcr7, hm⟩ := bd_ok hm
        refine gC_l C (gRSN (host := "PrefixLeader") (As := [.int ((M.1 (x0 + 1) x2.toNatClampNeg) &&& r6)]) (rest := []) 1 S C (c_X7_wide l D cy ad M ((M.1 (x0 + 1) x2.toNatClampNeg) &&& r6) r7 hcr7) gX4_firstDeepest_X7_wide_n36 rfl (by decide +kernel) knX4_firstDeepest_X7_widei knX4_firstDeepest_X7_wides (by decide +kernel) (by decide) rfl hl.1 rfl (Nat.le_of_ble_eq_true rfl) dX4_firstDeepest_36) (fun H locs C => ?_)
        exact gRetl S hr hlk C (Option.some.inj hm) rfl dX4_firstDeepest_39
set_option maxHeartbeats 4000000 in
set_option maxRecDepth 100000 in
theorem c_X4_firstDeepest (l : Launch) (D : va_G) (cy : gCy) (ad : Nat → Nat) (M : gMem) (x0 : Nat) (hL0 : isL x0) (r0 : Int64) (hm : mX4_firstDeepest M x0 = some r0) : Met l yX4_firstDeepest wsX4_firstDeepest (gR 2 43) (va_Pc [.ref (ad x0)] (gP shC D cy ad M)) (gQl shC D cy ad r0 M) 0 0 (gA shC ad) := by
  refine gEnter (cc := cX4_firstDeepest) (maxL := 3) (ret := (some .long)) (by decide) rfl (Nat.le_of_ble_eq_true rfl) ?_
  intro p e s m below meth c ls S hr hlk C hl
  have S : CallFix p m c cX4_firstDeepest 3 s _ wsX4_firstDeepest RX4 := S
  have hl : lv_has ls 3 [(0, .ref (ad x0))] := hl
  rw [mX4_firstDeepest] at hm
  refine lv_aload_n S.1 S.2.1 dX4_firstDeepest_0 rfl (lv_at hl 0 rfl) ?_
  obtain ⟨r1, hcr1, hm⟩ := bd_ok hm
  refine gC_i C (gRS (As := [.ref (ad x0)]) (rest := []) 1 S C (c_X4_deepest l D cy ad M x0 hL0 r1 hcr1) gX4_firstDeepest_X4_deepest rfl (by decide +kernel) (by decide) rfl hl.1 rfl (Nat.le_of_ble_eq_true rfl) dX4_firstDeepest_1) (fun H locs C => ?_)
  refine lv_istore_n (lv' := [(1, .int r1), (0, .ref (ad x0))]) S.1 S.2.1 dX4_firstDeepest_4 rfl hl (by decide) rfl (fun ls hl => ?_)
  refine lv_iconst (v := (0 : Int32)) S.1 S.2.1 dX4_firstDeepest_5 (by decide) ?_
  refine lv_istore_n (lv' := [(2, .int (0 : Int32)), (1, .int r1), (0, .ref (ad x0))]) S.1 S.2.1 dX4_firstDeepest_6 rfl hl (by decide) rfl (fun ls hl => ?_)
  exact wX4_firstDeepest_7 S hr hlk FU _ _ C x0 hL0 r1 (0 : Int32) ls (lv_sub hl [2, 1, 0] rfl) hm
def mX4_hasNode_2 : Nat → gMem → Nat → Int32 → Int32 → Int32 → Option Int32
  | 0, _, _, _, _, _ => none
  | n + 1, M, x0, x1, x2, x3 => if (M.1 x0 4) ≤ x3 then (some (0 : Int32)) else (ck (inb x3 (lnOf x0)) <| if (M.1 (x0 + 2) x3.toNatClampNeg) ≤ x2 then (nmd (x3 + (1 : Int32)) fun y4 => mX4_hasNode_2 n M x0 x1 x2 y4) else (ck (inb x3 (lnOf x0)) <| (mX7_begins (M.1 (x0 + 1) x3.toNatClampNeg) x1 x2).bind fun r6 => if r6 = 0 then (nmd (x3 + (1 : Int32)) fun y8 => mX4_hasNode_2 n M x0 x1 x2 y8) else (some (1 : Int32))))
def mX4_hasNode (M : gMem) (x0 : Nat) (x1 : Int32) (x2 : Int32) : Option Int32 := mX4_hasNode_2 FU M x0 x1 x2 (0 : Int32)
set_option maxHeartbeats 4000000 in
set_option maxRecDepth 100000 in
theorem wX4_hasNode_2 {p : Program} {l : Launch} {e : Env} {s : State} {m : MethodId} {args : Array Value} {below : List Frame} {meth : Method} {c : Code} {D : va_G} {cy : gCy} {ad : Nat → Nat} {M : gMem} {r0 : Int32} (S : CallFix p m c cX4_hasNode 4 s args wsX4_hasNode RX4) (hr : meth.sig.returnType = (some .boolean)) (hlk : meth.locks = false) : ∀ (n : Nat), ∀ (H : Heap) (locs : List Loc), gW shC D cy ad s s.heap M H locs → ∀ (x0 : Nat) (hL0 : isL x0) (x1 : Int32) (x2 : Int32) (x3 : Int32), ∀ (ls : Array Slot), lv_has ls 4 [(0, .ref (ad x0)), (1, .int x1), (2, .int x2), (3, .int x3)] → mX4_hasNode_2 n M x0 x1 x2 x3 = some r0 → W p l e (gR 3 65) s m args below meth c H locs 0 0 (MQ below (gQi shC D cy ad r0 M) args s 0 0 (gA shC ad)) (F0 m 2 ls []) := by
  intro n
  induction n with
  | zero => intro H locs C x0 hL0 x1 x2 x3 ls hl hm; exact absurd hm (by simp [mX4_hasNode_2])
  | succ n ih =>
    intro H locs C x0 hL0 x1 x2 x3 ls hl hm
    rw [mX4_hasNode_2] at hm
    refine lv_iload_n S.1 S.2.1 dX4_hasNode_2 rfl (lv_at hl 3 rfl) ?_
    refine lv_aload_n S.1 S.2.1 dX4_hasNode_3 rfl (lv_at hl 0 rfl) ?_
    refine g_get (k := x0) (ci := 2) (f := 4) (v := .int (M.1 x0 4))  S C kiX4_hasNode_X2 kfX4_hasNode_15 rfl (by decide) hL0.1 rfl rfl dX4_hasNode_4 ?_
    refine lv_icmp_ge (tgt := 42) S.1 S.2.1 dX4_hasNode_7 (by decide) (fun c1 => ?_) (fun c1 => ?_)
    · rw [if_pos c1] at hm
      refine lv_iconst (v := (0 : Int32)) S.1 S.2.1 dX4_hasNode_42 (by decide) ?_
      exact gRetz S hr hlk C rfl (Option.some.inj hm) rfl dX4_hasNode_43
    · rw [if_neg c1] at hm
      refine lv_aload_n S.1 S.2.1 dX4_hasNode_10 rfl (lv_at hl 0 rfl) ?_
      refine g_get (k := x0) (ci := 2) (f := 1) (v := .ref (ad (x0 + 2)))  S C kiX4_hasNode_X2 kfX4_hasNode_29 rfl (by decide) hL0.1 rfl rfl dX4_hasNode_11 ?_
      refine lv_iload_n S.1 S.2.1 dX4_hasNode_14 rfl (lv_at hl 3 rfl) ?_
      obtain ⟨h2, hm⟩ := ck_ok hm
      refine g_iald S C (k := (x0 + 2)) (hL0).2.2.1 h2 dX4_hasNode_15 ?_
      refine lv_iload_n S.1 S.2.1 dX4_hasNode_16 rfl (lv_at hl 2 rfl) ?_
      refine lv_icmp_le (tgt := 36) S.1 S.2.1 dX4_hasNode_17 (by decide) (fun c3 => ?_) (fun c3 => ?_)
      · rw [if_pos c3] at hm
        obtain ⟨y4, ey4, hm⟩ := nmd_ok hm
        refine lv_iinc (v := y4) (lv' := [(3, .int y4), (0, .ref (ad x0)), (1, .int x1), (2, .int x2)]) S.1 S.2.1 dX4_hasNode_36 hl (k := 3) rfl (by rw [ey4]; rfl) (by decide) rfl (fun ls hl => ?_)
        refine lv_goto (tgt := 2) S.1 S.2.1 dX4_hasNode_39 (by decide) ?_
        exact ih _ _ C x0 hL0 x1 x2 y4 ls (lv_sub hl [1, 2, 3, 0] rfl) hm
      · rw [if_neg c3] at hm
        refine lv_aload_n S.1 S.2.1 dX4_hasNode_20 rfl (lv_at hl 0 rfl) ?_
        refine g_get (k := x0) (ci := 2) (f := 0) (v := .ref (ad (x0 + 1)))  S C kiX4_hasNode_X2 kfX4_hasNode_21 rfl (by decide) hL0.1 rfl rfl dX4_hasNode_21 ?_
        refine lv_iload_n S.1 S.2.1 dX4_hasNode_24 rfl (lv_at hl 3 rfl) ?_
        obtain ⟨h5, hm⟩ := ck_ok hm
        refine g_iald S C (k := (x0 + 1)) (hL0).2.1 h5 dX4_hasNode_25 ?_
        refine lv_iload_n S.1 S.2.1 dX4_hasNode_26 rfl (lv_at hl 1 rfl) ?_
        refine lv_iload_n S.1 S.2.1 dX4_hasNode_27 rfl (lv_at hl 2 rfl) ?_
        obtain ⟨r6, hcr6, hm⟩ := bd_ok hm
        refine gC_i C (gRSN (host := "PrefixLeader") (As := [.int (M.1 (x0 + 1) x3.toNatClampNeg), .int x1, .int x2]) (rest := []) 3 S C (c_X7_begins l D cy ad M (M.1 (x0 + 1) x3.toNatClampNeg) x1 x2 r6 hcr6) gX4_hasNode_X7_begins_n47 rfl (by decide +kernel) knX4_hasNode_X7_beginsi knX4_hasNode_X7_beginss (by decide +kernel) (by decide) rfl hl.1 rfl (Nat.le_of_ble_eq_true rfl) dX4_hasNode_28) (fun H locs C => ?_)
        refine lv_if_eq (tgt := 36) S.1 S.2.1 dX4_hasNode_31 (by decide) (fun c7 => ?_) (fun c7 => ?_)
        · rw [if_pos c7] at hm
          obtain ⟨y8, ey8, hm⟩ := nmd_ok hm
          refine lv_iinc (v := y8) (lv' := [(3, .int y8), (0, .ref (ad x0)), (1, .int x1), (2, .int x2)]) S.1 S.2.1 dX4_hasNode_36 hl (k := 3) rfl (by rw [ey8]; rfl) (by decide) rfl (fun ls hl => ?_)
          refine lv_goto (tgt := 2) S.1 S.2.1 dX4_hasNode_39 (by decide) ?_
          exact ih _ _ C x0 hL0 x1 x2 y8 ls (lv_sub hl [1, 2, 3, 0] rfl) hm
        · rw [if_neg c7] at hm
          refine lv_iconst (v := (1 : Int32)) S.1 S.2.1 dX4_hasNode_34 (by decide) ?_
          exact gRetz S hr hlk C rfl (Option.some.inj hm) rfl dX4_hasNode_35
set_option maxHeartbeats 4000000 in
set_option maxRecDepth 100000 in
theorem c_X4_hasNode (l : Launch) (D : va_G) (cy : gCy) (ad : Nat → Nat) (M : gMem) (x0 : Nat) (hL0 : isL x0) (x1 : Int32) (x2 : Int32) (r0 : Int32) (hm : mX4_hasNode M x0 x1 x2 = some r0) : Met l yX4_hasNode wsX4_hasNode (gR 3 65) (va_Pc [.ref (ad x0), .int x1, .int x2] (gP shC D cy ad M)) (gQi shC D cy ad r0 M) 0 0 (gA shC ad) := by
  refine gEnter (cc := cX4_hasNode) (maxL := 4) (ret := (some .boolean)) (by decide) rfl (Nat.le_of_ble_eq_true rfl) ?_
  intro p e s m below meth c ls S hr hlk C hl
  have S : CallFix p m c cX4_hasNode 4 s _ wsX4_hasNode RX4 := S
  have hl : lv_has ls 4 [(0, .ref (ad x0)), (1, .int x1), (2, .int x2)] := hl
  rw [mX4_hasNode] at hm
  refine lv_iconst (v := (0 : Int32)) S.1 S.2.1 dX4_hasNode_0 (by decide) ?_
  refine lv_istore_n (lv' := [(3, .int (0 : Int32)), (0, .ref (ad x0)), (1, .int x1), (2, .int x2)]) S.1 S.2.1 dX4_hasNode_1 rfl hl (by decide) rfl (fun ls hl => ?_)
  exact wX4_hasNode_2 S hr hlk FU _ _ C x0 hL0 x1 x2 (0 : Int32) ls (lv_sub hl [1, 2, 3, 0] rfl) hm
def mX4_stepsOf_3 : Nat → gMem → Nat → Int32 → Int32 → Option Int32
  | 0, _, _, _, _ => none
  | n + 1, M, x0, x1, x2 => if x2 ≤ 0 then (some (1 : Int32)) else ((mX7_mask x2).bind fun r2 => (mX4_hasNode M x0 (x1 &&& r2) x2).bind fun r3 => if r3 = 0 then (nmd (x2 + (-6 : Int32)) fun y5 => mX4_stepsOf_3 n M x0 x1 y5) else ((mX4_stepsDownTo x2).bind fun r6 => some r6))
def mX4_stepsOf (M : gMem) (x0 : Nat) (x1 : Int32) : Option Int32 := mX4_stepsOf_3 FU M x0 x1 (30 : Int32)
set_option maxHeartbeats 4000000 in
set_option maxRecDepth 100000 in
theorem wX4_stepsOf_3 {p : Program} {l : Launch} {e : Env} {s : State} {m : MethodId} {args : Array Value} {below : List Frame} {meth : Method} {c : Code} {D : va_G} {cy : gCy} {ad : Nat → Nat} {M : gMem} {r0 : Int32} (S : CallFix p m c cX4_stepsOf 3 s args wsX4_stepsOf RX4) (hr : meth.sig.returnType = (some .int)) (hlk : meth.locks = false) : ∀ (n : Nat), ∀ (H : Heap) (locs : List Loc), gW shC D cy ad s s.heap M H locs → ∀ (x0 : Nat) (hL0 : isL x0) (x1 : Int32) (x2 : Int32), ∀ (ls : Array Slot), lv_has ls 3 [(0, .ref (ad x0)), (1, .int x1), (2, .int x2)] → mX4_stepsOf_3 n M x0 x1 x2 = some r0 → W p l e (gR 4 88) s m args below meth c H locs 0 0 (MQ below (gQi shC D cy ad r0 M) args s 0 0 (gA shC ad)) (F0 m 3 ls []) := by
  intro n
  induction n with
  | zero => intro H locs C x0 hL0 x1 x2 ls hl hm; exact absurd hm (by simp [mX4_stepsOf_3])
  | succ n ih =>
    intro H locs C x0 hL0 x1 x2 ls hl hm
    rw [mX4_stepsOf_3] at hm
    refine lv_iload_n S.1 S.2.1 dX4_stepsOf_3 rfl (lv_at hl 2 rfl) ?_
    refine lv_if_le (tgt := 32) S.1 S.2.1 dX4_stepsOf_4 (by decide) (fun c1 => ?_) (fun c1 => ?_)
    · rw [if_pos c1] at hm
      refine lv_iconst (v := (1 : Int32)) S.1 S.2.1 dX4_stepsOf_32 (by decide) ?_
      exact gReti S hr hlk C (Option.some.inj hm) rfl dX4_stepsOf_33
    · rw [if_neg c1] at hm
      refine lv_aload_n S.1 S.2.1 dX4_stepsOf_7 rfl (lv_at hl 0 rfl) ?_
      refine lv_iload_n S.1 S.2.1 dX4_stepsOf_8 rfl (lv_at hl 1 rfl) ?_
      refine lv_iload_n S.1 S.2.1 dX4_stepsOf_9 rfl (lv_at hl 2 rfl) ?_
      obtain ⟨r2, hcr2, hm⟩ := bd_ok hm
      refine gC_i C (gRSN (host := "PrefixLeader") (As := [.int x2]) (rest := [.int x1, .ref (ad x0)]) 1 S C (c_X7_mask l D cy ad M x2 r2 hcr2) gX4_stepsOf_X7_mask_n25 rfl (by decide +kernel) knX4_stepsOf_X7_maski knX4_stepsOf_X7_masks (by decide +kernel) (by decide) rfl hl.1 rfl (Nat.le_of_ble_eq_true rfl) dX4_stepsOf_10) (fun H locs C => ?_)
      refine lv_iand S.1 S.2.1 dX4_stepsOf_13 ?_
      refine lv_iload_n S.1 S.2.1 dX4_stepsOf_14 rfl (lv_at hl 2 rfl) ?_
      obtain ⟨r3, hcr3, hm⟩ := bd_ok hm
      refine gC_i C (gRS (As := [.ref (ad x0), .int (x1 &&& r2), .int x2]) (rest := []) 3 S C (c_X4_hasNode l D cy ad M x0 hL0 (x1 &&& r2) x2 r3 hcr3) gX4_stepsOf_X4_hasNode rfl (by decide +kernel) (by decide) rfl hl.1 rfl (Nat.le_of_ble_eq_true rfl) dX4_stepsOf_15) (fun H locs C => ?_)
      refine lv_if_eq (tgt := 26) S.1 S.2.1 dX4_stepsOf_18 (by decide) (fun c4 => ?_) (fun c4 => ?_)
      · rw [if_pos c4] at hm
        obtain ⟨y5, ey5, hm⟩ := nmd_ok hm
        refine lv_iinc (v := y5) (lv' := [(2, .int y5), (0, .ref (ad x0)), (1, .int x1)]) S.1 S.2.1 dX4_stepsOf_26 hl (k := 2) rfl (by rw [ey5]; rfl) (by decide) rfl (fun ls hl => ?_)
        refine lv_goto (tgt := 3) S.1 S.2.1 dX4_stepsOf_29 (by decide) ?_
        exact ih _ _ C x0 hL0 x1 y5 ls (lv_sub hl [1, 2, 0] rfl) hm
      · rw [if_neg c4] at hm
        refine lv_iload_n S.1 S.2.1 dX4_stepsOf_21 rfl (lv_at hl 2 rfl) ?_
        obtain ⟨r6, hcr6, hm⟩ := bd_ok hm
        refine gC_i C (gRS (As := [.int x2]) (rest := []) 1 S C (c_X4_stepsDownTo l D cy ad M x2 r6 hcr6) gX4_stepsOf_X4_stepsDownTo rfl (by decide +kernel) (by decide) rfl hl.1 rfl (Nat.le_of_ble_eq_true rfl) dX4_stepsOf_22) (fun H locs C => ?_)
        exact gReti S hr hlk C (Option.some.inj hm) rfl dX4_stepsOf_25
set_option maxHeartbeats 4000000 in
set_option maxRecDepth 100000 in
theorem c_X4_stepsOf (l : Launch) (D : va_G) (cy : gCy) (ad : Nat → Nat) (M : gMem) (x0 : Nat) (hL0 : isL x0) (x1 : Int32) (r0 : Int32) (hm : mX4_stepsOf M x0 x1 = some r0) : Met l yX4_stepsOf wsX4_stepsOf (gR 4 88) (va_Pc [.ref (ad x0), .int x1] (gP shC D cy ad M)) (gQi shC D cy ad r0 M) 0 0 (gA shC ad) := by
  refine gEnter (cc := cX4_stepsOf) (maxL := 3) (ret := (some .int)) (by decide) rfl (Nat.le_of_ble_eq_true rfl) ?_
  intro p e s m below meth c ls S hr hlk C hl
  have S : CallFix p m c cX4_stepsOf 3 s _ wsX4_stepsOf RX4 := S
  have hl : lv_has ls 3 [(0, .ref (ad x0)), (1, .int x1)] := hl
  rw [mX4_stepsOf] at hm
  refine lv_bipush (v := (30 : Int32)) S.1 S.2.1 dX4_stepsOf_0 (by decide) ?_
  refine lv_istore_n (lv' := [(2, .int (30 : Int32)), (0, .ref (ad x0)), (1, .int x1)]) S.1 S.2.1 dX4_stepsOf_2 rfl hl (by decide) rfl (fun ls hl => ?_)
  exact wX4_stepsOf_3 S hr hlk FU _ _ C x0 hL0 x1 (30 : Int32) ls (lv_sub hl [1, 2, 0] rfl) hm
