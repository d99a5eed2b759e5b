theorem kiX6_appendPuts_X2 : ∀ w ∈ wsX20, w ∈ wsX6_appendPuts := by decide +kernel
theorem kfX6_appendPuts_48 : Cond.fieldLink RX6 48 "PrefixLeader$Lines" "size" "I" ∈ wsX6_appendPuts := by decide +kernel
theorem kfX6_appendPuts_49 : Cond.fieldLink RX6 49 "PrefixLeader$Lines" "bits" "[I" ∈ wsX6_appendPuts := by decide +kernel
theorem kfX6_appendPuts_52 : Cond.fieldLink RX6 52 "PrefixLeader$Lines" "address" "[I" ∈ wsX6_appendPuts := by decide +kernel
theorem kfX6_appendPuts_55 : Cond.fieldLink RX6 55 "PrefixLeader$Lines" "goal" "[I" ∈ wsX6_appendPuts := by decide +kernel
theorem kiX6_appendPuts_X6 : ∀ w ∈ wsX60, w ∈ wsX6_appendPuts := by decide +kernel
theorem kfX6_appendPuts_20 : Cond.fieldLink RX6 20 "PrefixLeader$Way" "puts" "LPrefixLeader$Lines;" ∈ wsX6_appendPuts := by decide +kernel
theorem kiX6_appendDrops_X2 : ∀ w ∈ wsX20, w ∈ wsX6_appendDrops := by decide +kernel
theorem kfX6_appendDrops_48 : Cond.fieldLink RX6 48 "PrefixLeader$Lines" "size" "I" ∈ wsX6_appendDrops := by decide +kernel
theorem kfX6_appendDrops_49 : Cond.fieldLink RX6 49 "PrefixLeader$Lines" "bits" "[I" ∈ wsX6_appendDrops := by decide +kernel
theorem kfX6_appendDrops_52 : Cond.fieldLink RX6 52 "PrefixLeader$Lines" "address" "[I" ∈ wsX6_appendDrops := by decide +kernel
theorem kiX6_appendDrops_X6 : ∀ w ∈ wsX60, w ∈ wsX6_appendDrops := by decide +kernel
theorem kfX6_appendDrops_23 : Cond.fieldLink RX6 23 "PrefixLeader$Way" "drops" "LPrefixLeader$Lines;" ∈ wsX6_appendDrops := by decide +kernel
theorem kfX6_appendDrops_55 : Cond.fieldLink RX6 55 "PrefixLeader$Lines" "goal" "[I" ∈ wsX6_appendDrops := by decide +kernel
theorem kiX6_lay_X6 : ∀ w ∈ wsX60, w ∈ wsX6_lay := by decide +kernel
theorem kfX6_lay_14 : Cond.fieldLink RX6 14 "PrefixLeader$Way" "start" "LPrefixLeader$Lines;" ∈ wsX6_lay := by decide +kernel
theorem kfX6_lay_20 : Cond.fieldLink RX6 20 "PrefixLeader$Way" "puts" "LPrefixLeader$Lines;" ∈ wsX6_lay := by decide +kernel
theorem kfX6_lay_23 : Cond.fieldLink RX6 23 "PrefixLeader$Way" "drops" "LPrefixLeader$Lines;" ∈ wsX6_lay := by decide +kernel
theorem kiX6_lay_X2 : ∀ w ∈ wsX20, w ∈ wsX6_lay := by decide +kernel
theorem kfX6_lay_48 : Cond.fieldLink RX6 48 "PrefixLeader$Lines" "size" "I" ∈ wsX6_lay := by decide +kernel
theorem kfX6_lay_30 : Cond.fieldLink RX6 30 "PrefixLeader$Way" "size" "I" ∈ wsX6_lay := by decide +kernel
theorem kcX6_tell_70 : Cond.constantLong RX6 70 (-1 : Int64) ∈ wsX6_tell := by decide +kernel
theorem kiX6_tell_X6 : ∀ w ∈ wsX60, w ∈ wsX6_tell := by decide +kernel
theorem kfX6_tell_30 : Cond.fieldLink RX6 30 "PrefixLeader$Way" "size" "I" ∈ wsX6_tell := by decide +kernel
theorem kfX6_tell_20 : Cond.fieldLink RX6 20 "PrefixLeader$Way" "puts" "LPrefixLeader$Lines;" ∈ wsX6_tell := by decide +kernel
theorem kiX6_tell_X2 : ∀ w ∈ wsX20, w ∈ wsX6_tell := by decide +kernel
theorem kfX6_tell_48 : Cond.fieldLink RX6 48 "PrefixLeader$Lines" "size" "I" ∈ wsX6_tell := by decide +kernel
theorem kfX6_tell_23 : Cond.fieldLink RX6 23 "PrefixLeader$Way" "drops" "LPrefixLeader$Lines;" ∈ wsX6_tell := by decide +kernel
theorem kfX6_tell_49 : Cond.fieldLink RX6 49 "PrefixLeader$Lines" "bits" "[I" ∈ wsX6_tell := by decide +kernel
theorem kfX6_tell_55 : Cond.fieldLink RX6 55 "PrefixLeader$Lines" "goal" "[I" ∈ wsX6_tell := by decide +kernel
theorem kiX6_noteHolders_X2 : ∀ w ∈ wsX20, w ∈ wsX6_noteHolders := by decide +kernel
theorem kfX6_noteHolders_48 : Cond.fieldLink RX6 48 "PrefixLeader$Lines" "size" "I" ∈ wsX6_noteHolders := by decide +kernel
theorem kfX6_noteHolders_52 : Cond.fieldLink RX6 52 "PrefixLeader$Lines" "address" "[I" ∈ wsX6_noteHolders := by decide +kernel
theorem kfX6_noteHolders_49 : Cond.fieldLink RX6 49 "PrefixLeader$Lines" "bits" "[I" ∈ wsX6_noteHolders := by decide +kernel
theorem knX6_noteHolders_X7_beginsi : Cond.initialized yX7_begins.cls ∈ wsX6_noteHolders := by decide +kernel
theorem knX6_noteHolders_X7_beginss : Cond.static yX7_begins ∈ wsX6_noteHolders := by decide +kernel
theorem kiX6_noteHolders_X6 : ∀ w ∈ wsX60, w ∈ wsX6_noteHolders := by decide +kernel
theorem kfX6_noteHolders_26 : Cond.fieldLink RX6 26 "PrefixLeader$Way" "goalByBits" "[I" ∈ wsX6_noteHolders := by decide +kernel
theorem kfX6_noteHolders_55 : Cond.fieldLink RX6 55 "PrefixLeader$Lines" "goal" "[I" ∈ wsX6_noteHolders := by decide +kernel
theorem kiX6_goalBehind_X6 : ∀ w ∈ wsX60, w ∈ wsX6_goalBehind := by decide +kernel
theorem kfX6_goalBehind_30 : Cond.fieldLink RX6 30 "PrefixLeader$Way" "size" "I" ∈ wsX6_goalBehind := by decide +kernel
theorem kfX6_goalBehind_14 : Cond.fieldLink RX6 14 "PrefixLeader$Way" "start" "LPrefixLeader$Lines;" ∈ wsX6_goalBehind := by decide +kernel
theorem kiX6_goalBehind_X2 : ∀ w ∈ wsX20, w ∈ wsX6_goalBehind := by decide +kernel
theorem kfX6_goalBehind_48 : Cond.fieldLink RX6 48 "PrefixLeader$Lines" "size" "I" ∈ wsX6_goalBehind := by decide +kernel
theorem kfX6_goalBehind_20 : Cond.fieldLink RX6 20 "PrefixLeader$Way" "puts" "LPrefixLeader$Lines;" ∈ wsX6_goalBehind := by decide +kernel
theorem kmX6_goalBehind_80l : Cond.methodLink RX6 80 Lib.Math.min.name ∈ wsX6_goalBehind := by decide +kernel
theorem kmX6_goalBehind_80s : Cond.static Lib.Math.min.name ∈ wsX6_goalBehind := by decide +kernel
theorem kmX6_goalBehind_80i : Cond.initialized "java/lang/Math" ∈ wsX6_goalBehind := by decide +kernel
theorem kmX6_goalBehind_80c : Cond.code Lib.Math.min.name Lib.Math.min.code 2 (some .int) ∈ wsX6_goalBehind := by decide +kernel
theorem kfX6_goalBehind_23 : Cond.fieldLink RX6 23 "PrefixLeader$Way" "drops" "LPrefixLeader$Lines;" ∈ wsX6_goalBehind := by decide +kernel
theorem kfX6_goalBehind_26 : Cond.fieldLink RX6 26 "PrefixLeader$Way" "goalByBits" "[I" ∈ wsX6_goalBehind := by decide +kernel
def mX6_appendPuts_3 : Nat → gMem → Nat → Nat → Int32 → Int32 → Option gMem
  | 0, _, _, _, _, _ => none
  | n + 1, M, x1, x2, x3, x4 => if (M.1 x2 4) ≤ x4 then (some M) else (ck (inb x4 (lnOf x2)) <| if (M.1 (x2 + 2) x4.toNatClampNeg) = x3 then (ck (inb x4 (lnOf x2)) <| ck (inb x4 (lnOf x2)) <| (mX2_hasLine M x1 (M.1 (x2 + 1) x4.toNatClampNeg) x3 (M.1 (x2 + 3) x4.toNatClampNeg)).bind fun r7 => if r7 = 0 then (ck (inb x4 (lnOf x2)) <| ck (inb x4 (lnOf x2)) <| (mX2_append M 58 (M.1 (x2 + 1) x4.toNatClampNeg) x3 (M.1 (x2 + 3) x4.toNatClampNeg)).bind fun r12 => nmd (x4 + (1 : Int32)) fun y13 => mX6_appendPuts_3 n r12 x1 x2 x3 y13) else (nmd (x4 + (1 : Int32)) fun y9 => mX6_appendPuts_3 n M x1 x2 x3 y9)) else (nmd (x4 + (1 : Int32)) fun y4 => mX6_appendPuts_3 n M x1 x2 x3 y4))
def mX6_appendPuts (M : gMem) (x1 : Nat) (x2 : Nat) (x3 : Int32) : Option gMem := mX6_appendPuts_3 FU M x1 x2 x3 (0 : Int32)
set_option maxHeartbeats 4000000 in
set_option maxRecDepth 100000 in
theorem wX6_appendPuts_3 {p : Program} {l : Launch} {e : Env} {s : State} {m : MethodId} {args : Array Value} {below : List Frame} {meth : Method} {c : Code} {D : va_G} {cy : gCy} {ad : Nat → Nat} {r0 : gMem} (S : CallFix p m c cX6_appendPuts 5 s args wsX6_appendPuts RX6) (hr : meth.sig.returnType = none) (hlk : meth.locks = false) : ∀ (n : Nat), ∀ (M : gMem) (H : Heap) (locs : List Loc), gW shC D cy ad s s.heap M H locs → ∀ (x1 : Nat) (hL1 : isL x1) (x2 : Nat) (hL2 : isL x2) (x3 : Int32) (x4 : Int32), ∀ (ls : Array Slot), lv_has ls 5 [(0, .ref (ad 53)), (1, .ref (ad x1)), (2, .ref (ad x2)), (3, .int x3), (4, .int x4)] → mX6_appendPuts_3 n M x1 x2 x3 x4 = some r0 → W p l e (gR 4 90) s m args below meth c H locs 0 0 (MQ below (gQv shC D cy ad r0) args s 0 0 (gA shC ad)) (F0 m 3 ls []) := by
  intro n
  induction n with
  | zero => intro M H locs C x1 hL1 x2 hL2 x3 x4 ls hl hm; exact absurd hm (by simp [mX6_appendPuts_3])
  | succ n ih =>
    intro M H locs C x1 hL1 x2 hL2 x3 x4 ls hl hm
    rw [mX6_appendPuts_3] at hm
    refine lv_iload S.1 S.2.1 dX6_appendPuts_3 (lv_at hl 4 rfl) ?_
    refine lv_aload_n S.1 S.2.1 dX6_appendPuts_5 rfl (lv_at hl 2 rfl) ?_
    refine g_get (k := x2) (ci := 2) (f := 4) (v := .int (M.1 x2 4))  S C kiX6_appendPuts_X2 kfX6_appendPuts_48 rfl (by decide) hL2.1 rfl rfl dX6_appendPuts_6 ?_
    refine lv_icmp_ge (tgt := 73) S.1 S.2.1 dX6_appendPuts_9 (by decide) (fun c1 => ?_) (fun c1 => ?_)
    · rw [if_pos c1] at hm
      exact gRetv S hr hlk C (Option.some.inj hm) dX6_appendPuts_73
    · rw [if_neg c1] at hm
      refine lv_aload_n S.1 S.2.1 dX6_appendPuts_12 rfl (lv_at hl 2 rfl) ?_
      refine g_get (k := x2) (ci := 2) (f := 1) (v := .ref (ad (x2 + 2)))  S C kiX6_appendPuts_X2 kfX6_appendPuts_49 rfl (by decide) hL2.1 rfl rfl dX6_appendPuts_13 ?_
      refine lv_iload S.1 S.2.1 dX6_appendPuts_16 (lv_at hl 4 rfl) ?_
      obtain ⟨h2, hm⟩ := ck_ok hm
      refine g_iald S C (k := (x2 + 2)) (hL2).2.2.1 h2 dX6_appendPuts_18 ?_
      refine lv_iload_n S.1 S.2.1 dX6_appendPuts_19 rfl (lv_at hl 3 rfl) ?_
      refine lv_icmp_ne (tgt := 67) S.1 S.2.1 dX6_appendPuts_20 (by decide) (fun c3 => ?_) (fun c3 => ?_)
      · rw [if_neg c3] at hm
        obtain ⟨y4, ey4, hm⟩ := nmd_ok hm
        refine lv_iinc (v := y4) (lv' := [(4, .int y4), (0, .ref (ad 53)), (1, .ref (ad x1)), (2, .ref (ad x2)), (3, .int x3)]) S.1 S.2.1 dX6_appendPuts_67 hl (k := 4) rfl (by rw [ey4]; rfl) (by decide) rfl (fun ls hl => ?_)
        refine lv_goto (tgt := 3) S.1 S.2.1 dX6_appendPuts_70 (by decide) ?_
        exact ih M _ _ C x1 hL1 x2 hL2 x3 y4 ls (lv_sub hl [1, 2, 3, 4, 0] rfl) hm
      · rw [if_pos c3] at hm
        refine lv_aload_n S.1 S.2.1 dX6_appendPuts_23 rfl (lv_at hl 1 rfl) ?_
        refine lv_aload_n S.1 S.2.1 dX6_appendPuts_24 rfl (lv_at hl 2 rfl) ?_
        refine g_get (k := x2) (ci := 2) (f := 0) (v := .ref (ad (x2 + 1)))  S C kiX6_appendPuts_X2 kfX6_appendPuts_52 rfl (by decide) hL2.1 rfl rfl dX6_appendPuts_25 ?_
        refine lv_iload S.1 S.2.1 dX6_appendPuts_28 (lv_at hl 4 rfl) ?_
        obtain ⟨h5, hm⟩ := ck_ok hm
        refine g_iald S C (k := (x2 + 1)) (hL2).2.1 h5 dX6_appendPuts_30 ?_
        refine lv_iload_n S.1 S.2.1 dX6_appendPuts_31 rfl (lv_at hl 3 rfl) ?_
        refine lv_aload_n S.1 S.2.1 dX6_appendPuts_32 rfl (lv_at hl 2 rfl) ?_
        refine g_get (k := x2) (ci := 2) (f := 2) (v := .ref (ad (x2 + 3)))  S C kiX6_appendPuts_X2 kfX6_appendPuts_55 rfl (by decide) hL2.1 rfl rfl dX6_appendPuts_33 ?_
        refine lv_iload S.1 S.2.1 dX6_appendPuts_36 (lv_at hl 4 rfl) ?_
        obtain ⟨h6, hm⟩ := ck_ok hm
        refine g_iald S C (k := (x2 + 3)) (hL2).2.2.2 h6 dX6_appendPuts_38 ?_
        obtain ⟨r7, hcr7, hm⟩ := bd_ok hm
        refine gC_i C (gRV (k := x1) (ci := 2) (r := (RX2, TX2, 5)) (As := [.int (M.1 (x2 + 1) x4.toNatClampNeg), .int x3, .int (M.1 (x2 + 3) x4.toNatClampNeg)]) (rest := []) 3 S C (c_X2_hasLine l D cy ad M x1 hL1 (M.1 (x2 + 1) x4.toNatClampNeg) x3 (M.1 (x2 + 3) x4.toNatClampNeg) r7 hcr7) gX6_appendPuts_X2_hasLine rfl (by decide +kernel) (by decide) hL1.1 rfl rfl rfl hl.1 rfl (Nat.le_of_ble_eq_true rfl) dX6_appendPuts_39) (fun H locs C => ?_)
        refine lv_if_ne (tgt := 67) S.1 S.2.1 dX6_appendPuts_42 (by decide) (fun c8 => ?_) (fun c8 => ?_)
        · rw [if_neg c8] at hm
          obtain ⟨y9, ey9, hm⟩ := nmd_ok hm
          refine lv_iinc (v := y9) (lv' := [(4, .int y9), (0, .ref (ad 53)), (1, .ref (ad x1)), (2, .ref (ad x2)), (3, .int x3)]) S.1 S.2.1 dX6_appendPuts_67 hl (k := 4) rfl (by rw [ey9]; rfl) (by decide) rfl (fun ls hl => ?_)
          refine lv_goto (tgt := 3) S.1 S.2.1 dX6_appendPuts_70 (by decide) ?_
          exact ih M _ _ C x1 hL1 x2 hL2 x3 y9 ls (lv_sub hl [1, 2, 3, 4, 0] rfl) hm
        · rw [if_pos c8] at hm
          refine lv_aload_n S.1 S.2.1 dX6_appendPuts_45 rfl (lv_at hl 0 rfl) ?_
          refine g_get (k := 53) (ci := 5) (f := 1) (v := .ref (ad 58))  S C kiX6_appendPuts_X6 kfX6_appendPuts_20 rfl (by decide) shC_53 rfl rfl dX6_appendPuts_46 ?_
          refine lv_aload_n S.1 S.2.1 dX6_appendPuts_49 rfl (lv_at hl 2 rfl) ?_
          refine g_get (k := x2) (ci := 2) (f := 0) (v := .ref (ad (x2 + 1)))  S C kiX6_appendPuts_X2 kfX6_appendPuts_52 rfl (by decide) hL2.1 rfl rfl dX6_appendPuts_50 ?_
          refine lv_iload S.1 S.2.1 dX6_appendPuts_53 (lv_at hl 4 rfl) ?_
          obtain ⟨h10, hm⟩ := ck_ok hm
          refine g_iald S C (k := (x2 + 1)) (hL2).2.1 h10 dX6_appendPuts_55 ?_
          refine lv_iload_n S.1 S.2.1 dX6_appendPuts_56 rfl (lv_at hl 3 rfl) ?_
          refine lv_aload_n S.1 S.2.1 dX6_appendPuts_57 rfl (lv_at hl 2 rfl) ?_
          refine g_get (k := x2) (ci := 2) (f := 2) (v := .ref (ad (x2 + 3)))  S C kiX6_appendPuts_X2 kfX6_appendPuts_55 rfl (by decide) hL2.1 rfl rfl dX6_appendPuts_58 ?_
          refine lv_iload S.1 S.2.1 dX6_appendPuts_61 (lv_at hl 4 rfl) ?_
          obtain ⟨h11, hm⟩ := ck_ok hm
          refine g_iald S C (k := (x2 + 3)) (hL2).2.2.2 h11 dX6_appendPuts_63 ?_
          obtain ⟨r12, hcr12, hm⟩ := bd_ok hm
          refine gC_v C (gRV (k := 58) (ci := 2) (r := (RX2, TX2, 5)) (As := [.int (M.1 (x2 + 1) x4.toNatClampNeg), .int x3, .int (M.1 (x2 + 3) x4.toNatClampNeg)]) (rest := []) 3 S C (c_X2_append l D cy ad M 58 isL_58 (M.1 (x2 + 1) x4.toNatClampNeg) x3 (M.1 (x2 + 3) x4.toNatClampNeg) r12 hcr12) gX6_appendPuts_X2_append rfl (by decide +kernel) (by decide) isL_58.1 rfl rfl rfl hl.1 rfl (Nat.le_of_ble_eq_true rfl) dX6_appendPuts_64) (fun H locs C => ?_)
          obtain ⟨y13, ey13, hm⟩ := nmd_ok hm
          refine lv_iinc (v := y13) (lv' := [(4, .int y13), (0, .ref (ad 53)), (1, .ref (ad x1)), (2, .ref (ad x2)), (3, .int x3)]) S.1 S.2.1 dX6_appendPuts_67 hl (k := 4) rfl (by rw [ey13]; rfl) (by decide) rfl (fun ls hl => ?_)
          refine lv_goto (tgt := 3) S.1 S.2.1 dX6_appendPuts_70 (by decide) ?_
          exact ih r12 _ _ C x1 hL1 x2 hL2 x3 y13 ls (lv_sub hl [1, 2, 3, 4, 0] rfl) hm
set_option maxHeartbeats 4000000 in
set_option maxRecDepth 100000 in
theorem c_X6_appendPuts (l : Launch) (D : va_G) (cy : gCy) (ad : Nat → Nat) (M : gMem) (x1 : Nat) (hL1 : isL x1) (x2 : Nat) (hL2 : isL x2) (x3 : Int32) (r0 : gMem) (hm : mX6_appendPuts M x1 x2 x3 = some r0) : Met l yX6_appendPuts wsX6_appendPuts (gR 4 90) (va_Pc [.ref (ad 53), .ref (ad x1), .ref (ad x2), .int x3] (gP shC D cy ad M)) (gQv shC D cy ad r0) 0 0 (gA shC ad) := by
  refine gEnter (cc := cX6_appendPuts) (maxL := 5) (ret := none) (by decide) rfl (Nat.le_of_ble_eq_true rfl) ?_
  intro p e s m below meth c ls S hr hlk C hl
  have S : CallFix p m c cX6_appendPuts 5 s _ wsX6_appendPuts RX6 := S
  have hl : lv_has ls 5 [(0, .ref (ad 53)), (1, .ref (ad x1)), (2, .ref (ad x2)), (3, .int x3)] := hl
  rw [mX6_appendPuts] at hm
  refine lv_iconst (v := (0 : Int32)) S.1 S.2.1 dX6_appendPuts_0 (by decide) ?_
  refine lv_istore (lv' := [(4, .int (0 : Int32)), (0, .ref (ad 53)), (1, .ref (ad x1)), (2, .ref (ad x2)), (3, .int x3)]) S.1 S.2.1 dX6_appendPuts_1 hl (by decide) rfl (fun ls hl => ?_)
  exact wX6_appendPuts_3 S hr hlk FU M _ _ C x1 hL1 x2 hL2 x3 (0 : Int32) ls (lv_sub hl [1, 2, 3, 4, 0] rfl) hm
def mX6_appendDrops_3 : Nat → gMem → Nat → Nat → Int32 → Int32 → Option gMem
  | 0, _, _, _, _, _ => none
  | n + 1, M, x1, x2, x3, x4 => if (M.1 x1 4) ≤ x4 then (some M) else (ck (inb x4 (lnOf x1)) <| if (M.1 (x1 + 2) x4.toNatClampNeg) = x3 then (ck (inb x4 (lnOf x1)) <| (mX2_hasBeginning M x2 (M.1 (x1 + 1) x4.toNatClampNeg) x3).bind fun r6 => if r6 = 0 then (ck (inb x4 (lnOf x1)) <| ck (inb x4 (lnOf x1)) <| (mX2_append M 62 (M.1 (x1 + 1) x4.toNatClampNeg) x3 (M.1 (x1 + 3) x4.toNatClampNeg)).bind fun r11 => nmd (x4 + (1 : Int32)) fun y12 => mX6_appendDrops_3 n r11 x1 x2 x3 y12) else (nmd (x4 + (1 : Int32)) fun y8 => mX6_appendDrops_3 n M x1 x2 x3 y8)) else (nmd (x4 + (1 : Int32)) fun y4 => mX6_appendDrops_3 n M x1 x2 x3 y4))
def mX6_appendDrops (M : gMem) (x1 : Nat) (x2 : Nat) (x3 : Int32) : Option gMem := mX6_appendDrops_3 FU M x1 x2 x3 (0 : Int32)
set_option maxHeartbeats 4000000 in
set_option maxRecDepth 100000 in
theorem wX6_appendDrops_3 {p : Program} {l : Launch} {e : Env} {s : State} {m : MethodId} {args : Array Value} {below : List Frame} {meth : Method} {c : Code} {D : va_G} {cy : gCy} {ad : Nat → Nat} {r0 : gMem} (S : CallFix p m c cX6_appendDrops 5 s args wsX6_appendDrops RX6) (hr : meth.sig.returnType = none) (hlk : meth.locks = false) : ∀ (n : Nat), ∀ (M : gMem) (H : Heap) (locs : List Loc), gW shC D cy ad s s.heap M H locs → ∀ (x1 : Nat) (hL1 : isL x1) (x2 : Nat) (hL2 : isL x2) (x3 : Int32) (x4 : Int32), ∀ (ls : Array Slot), lv_has ls 5 [(0, .ref (ad 53)), (1, .ref (ad x1)), (2, .ref (ad x2)), (3, .int x3), (4, .int x4)] → mX6_appendDrops_3 n M x1 x2 x3 x4 = some r0 → W p l e (gR 4 88) s m args below meth c H locs 0 0 (MQ below (gQv shC D cy ad r0) args s 0 0 (gA shC ad)) (F0 m 3 ls []) := by
  intro n
  induction n with
  | zero => intro M H locs C x1 hL1 x2 hL2 x3 x4 ls hl hm; exact absurd hm (by simp [mX6_appendDrops_3])
  | succ n ih =>
    intro M H locs C x1 hL1 x2 hL2 x3 x4 ls hl hm
    rw [mX6_appendDrops_3] at hm
    refine lv_iload S.1 S.2.1 dX6_appendDrops_3 (lv_at hl 4 rfl) ?_
    refine lv_aload_n S.1 S.2.1 dX6_appendDrops_5 rfl (lv_at hl 1 rfl) ?_
    refine g_get (k := x1) (ci := 2) (f := 4) (v := .int (M.1 x1 4))  S C kiX6_appendDrops_X2 kfX6_appendDrops_48 rfl (by decide) hL1.1 rfl rfl dX6_appendDrops_6 ?_
    refine lv_icmp_ge (tgt := 66) S.1 S.2.1 dX6_appendDrops_9 (by decide) (fun c1 => ?_) (fun c1 => ?_)
    · rw [if_pos c1] at hm
      exact gRetv S hr hlk C (Option.some.inj hm) dX6_appendDrops_66
    · rw [if_neg c1] at hm
      refine lv_aload_n S.1 S.2.1 dX6_appendDrops_12 rfl (lv_at hl 1 rfl) ?_
      refine g_get (k := x1) (ci := 2) (f := 1) (v := .ref (ad (x1 + 2)))  S C kiX6_appendDrops_X2 kfX6_appendDrops_49 rfl (by decide) hL1.1 rfl rfl dX6_appendDrops_13 ?_
      refine lv_iload S.1 S.2.1 dX6_appendDrops_16 (lv_at hl 4 rfl) ?_
      obtain ⟨h2, hm⟩ := ck_ok hm
      refine g_iald S C (k := (x1 + 2)) (hL1).2.2.1 h2 dX6_appendDrops_18 ?_
      refine lv_iload_n S.1 S.2.1 dX6_appendDrops_19 rfl (lv_at hl 3 rfl) ?_
      refine lv_icmp_ne (tgt := 60) S.1 S.2.1 dX6_appendDrops_20 (by decide) (fun c3 => ?_) (fun c3 => ?_)
      · rw [if_neg c3] at hm
        obtain ⟨y4, ey4, hm⟩ := nmd_ok hm
        refine lv_iinc (v := y4) (lv' := [(4, .int y4), (0, .ref (ad 53)), (1, .ref (ad x1)), (2, .ref (ad x2)), (3, .int x3)]) S.1 S.2.1 dX6_appendDrops_60 hl (k := 4) rfl (by rw [ey4]; rfl) (by decide) rfl (fun ls hl => ?_)
        refine lv_goto (tgt := 3) S.1 S.2.1 dX6_appendDrops_63 (by decide) ?_
        exact ih M _ _ C x1 hL1 x2 hL2 x3 y4 ls (lv_sub hl [1, 2, 3, 4, 0] rfl) hm
      · rw [if_pos c3] at hm
        refine lv_aload_n S.1 S.2.1 dX6_appendDrops_23 rfl (lv_at hl 2 rfl) ?_
        refine lv_aload_n S.1 S.2.1 dX6_appendDrops_24 rfl (lv_at hl 1 rfl) ?_
        refine g_get (k := x1) (ci := 2) (f := 0) (v := .ref (ad (x1 + 1)))  S C kiX6_appendDrops_X2 kfX6_appendDrops_52 rfl (by decide) hL1.1 rfl rfl dX6_appendDrops_25 ?_
        refine lv_iload S.1 S.2.1 dX6_appendDrops_28 (lv_at hl 4 rfl) ?_
        obtain ⟨h5, hm⟩ := ck_ok hm
        refine g_iald S C (k := (x1 + 1)) (hL1).2.1 h5 dX6_appendDrops_30 ?_
        refine lv_iload_n S.1 S.2.1 dX6_appendDrops_31 rfl (lv_at hl 3 rfl) ?_
        obtain ⟨r6, hcr6, hm⟩ := bd_ok hm
        refine gC_i C (gRV (k := x2) (ci := 2) (r := (RX2, TX2, 5)) (As := [.int (M.1 (x1 + 1) x4.toNatClampNeg), .int x3]) (rest := []) 2 S C (c_X2_hasBeginning l D cy ad M x2 hL2 (M.1 (x1 + 1) x4.toNatClampNeg) x3 r6 hcr6) gX6_appendDrops_X2_hasBeginning rfl (by decide +kernel) (by decide) hL2.1 rfl rfl rfl hl.1 rfl (Nat.le_of_ble_eq_true rfl) dX6_appendDrops_32) (fun H locs C => ?_)
        refine lv_if_ne (tgt := 60) S.1 S.2.1 dX6_appendDrops_35 (by decide) (fun c7 => ?_) (fun c7 => ?_)
        · rw [if_neg c7] at hm
          obtain ⟨y8, ey8, hm⟩ := nmd_ok hm
          refine lv_iinc (v := y8) (lv' := [(4, .int y8), (0, .ref (ad 53)), (1, .ref (ad x1)), (2, .ref (ad x2)), (3, .int x3)]) S.1 S.2.1 dX6_appendDrops_60 hl (k := 4) rfl (by rw [ey8]; rfl) (by decide) rfl (fun ls hl => ?_)
          refine lv_goto (tgt := 3) S.1 S.2.1 dX6_appendDrops_63 (by decide) ?_
          exact ih M _ _ C x1 hL1 x2 hL2 x3 y8 ls (lv_sub hl [1, 2, 3, 4, 0] rfl) hm
        · rw [if_pos c7] at hm
          refine lv_aload_n S.1 S.2.1 dX6_appendDrops_38 rfl (lv_at hl 0 rfl) ?_
          refine g_get (k := 53) (ci := 5) (f := 2) (v := .ref (ad 62))  S C kiX6_appendDrops_X6 kfX6_appendDrops_23 rfl (by decide) shC_53 rfl rfl dX6_appendDrops_39 ?_
          refine lv_aload_n S.1 S.2.1 dX6_appendDrops_42 rfl (lv_at hl 1 rfl) ?_
          refine g_get (k := x1) (ci := 2) (f := 0) (v := .ref (ad (x1 + 1)))  S C kiX6_appendDrops_X2 kfX6_appendDrops_52 rfl (by decide) hL1.1 rfl rfl dX6_appendDrops_43 ?_
          refine lv_iload S.1 S.2.1 dX6_appendDrops_46 (lv_at hl 4 rfl) ?_
          obtain ⟨h9, hm⟩ := ck_ok hm
          refine g_iald S C (k := (x1 + 1)) (hL1).2.1 h9 dX6_appendDrops_48 ?_
          refine lv_iload_n S.1 S.2.1 dX6_appendDrops_49 rfl (lv_at hl 3 rfl) ?_
          refine lv_aload_n S.1 S.2.1 dX6_appendDrops_50 rfl (lv_at hl 1 rfl) ?_
          refine g_get (k := x1) (ci := 2) (f := 2) (v := .ref (ad (x1 + 3)))  S C kiX6_appendDrops_X2 kfX6_appendDrops_55 rfl (by decide) hL1.1 rfl rfl dX6_appendDrops_51 ?_
          refine lv_iload S.1 S.2.1 dX6_appendDrops_54 (lv_at hl 4 rfl) ?_
          obtain ⟨h10, hm⟩ := ck_ok hm
          refine g_iald S C (k := (x1 + 3)) (hL1).2.2.2 h10 dX6_appendDrops_56 ?_
          obtain ⟨r11, hcr11, hm⟩ := bd_ok hm
          refine gC_v C (gRV (k := 62) (ci := 2) (r := (RX2, TX2, 5)) (As := [.int (M.1 (x1 + 1) x4.toNatClampNeg), .int x3, .int (M.1 (x1 + 3) x4.toNatClampNeg)]) (rest := []) 3 S C (c_X2_append l D cy ad M 62 isL_62 (M.1 (x1 + 1) x4.toNatClampNeg) x3 (M.1 (x1 + 3) x4.toNatClampNeg) r11 hcr11) gX6_appendDrops_X2_append rfl (by decide +kernel) (by decide) isL_62.1 rfl rfl rfl hl.1 rfl (Nat.le_of_ble_eq_true rfl) dX6_appendDrops_57) (fun H locs C => ?_)
          obtain ⟨y12, ey12, hm⟩ := nmd_ok hm
          refine lv_iinc (v := y12) (lv' := [(4, .int y12), (0, .ref (ad 53)), (1, .ref (ad x1)), (2, .ref (ad x2)), (3, .int x3)]) S.1 S.2.1 dX6_appendDrops_60 hl (k := 4) rfl (by rw [ey12]; rfl) (by decide) rfl (fun ls hl => ?_)
          refine lv_goto (tgt := 3) S.1 S.2.1 dX6_appendDrops_63 (by decide) ?_
          exact ih r11 _ _ C x1 hL1 x2 hL2 x3 y12 ls (lv_sub hl [1, 2, 3, 4, 0] rfl) hm
set_option maxHeartbeats 4000000 in
set_option maxRecDepth 100000 in
theorem c_X6_appendDrops (l : Launch) (D : va_G) (cy : gCy) (ad : Nat → Nat) (M : gMem) (x1 : Nat) (hL1 : isL x1) (x2 : Nat) (hL2 : isL x2) (x3 : Int32) (r0 : gMem) (hm : mX6_appendDrops M x1 x2 x3 = some r0) : Met l yX6_appendDrops wsX6_appendDrops (gR 4 88) (va_Pc [.ref (ad 53), .ref (ad x1), .ref (ad x2), .int x3] (gP shC D cy ad M)) (gQv shC D cy ad r0) 0 0 (gA shC ad) := by
  refine gEnter (cc := cX6_appendDrops) (maxL := 5) (ret := none) (by decide) rfl (Nat.le_of_ble_eq_true rfl) ?_
  intro p e s m below meth c ls S hr hlk C hl
  have S : CallFix p m c cX6_appendDrops 5 s _ wsX6_appendDrops RX6 := S
  have hl : lv_has ls 5 [(0, .ref (ad 53)), (1, .ref (ad x1)), (2, .ref (ad x2)), (3, .int x3)] := hl
  rw [mX6_appendDrops] at hm
  refine lv_iconst (v := (0 : Int32)) S.1 S.2.1 dX6_appendDrops_0 (by decide) ?_
  refine lv_istore (lv' := [(4, .int (0 : Int32)), (0, .ref (ad 53)), (1, .ref (ad x1)), (2, .ref (ad x2)), (3, .int x3)]) S.1 S.2.1 dX6_appendDrops_1 hl (by decide) rfl (fun ls hl => ?_)
  exact wX6_appendDrops_3 S hr hlk FU M _ _ C x1 hL1 x2 hL2 x3 (0 : Int32) ls (lv_sub hl [1, 2, 3, 4, 0] rfl) hm
def mX6_lay_44 : Nat → gMem → Nat → Nat → Int32 → Option gMem
  | 0, _, _, _, _ => none
  | n + 1, M, x1, x2, x3 => if (32 : Int32) < x3 then (nmd (sI M 53 4 ((M.1 58 4) + (M.1 62 4))) fun M2 => some M2) else ((mX6_appendDrops M x1 x2 x3).bind fun r3 => nmd (x3 + (1 : Int32)) fun y4 => mX6_lay_44 n r3 x1 x2 y4)
def mX6_lay_25 : Nat → gMem → Nat → Nat → Int32 → Option gMem
  | 0, _, _, _, _ => none
  | n + 1, M, x1, x2, x3 => if x3 < 0 then (mX6_lay_44 FU M x1 x2 (0 : Int32)) else ((mX6_appendPuts M x1 x2 x3).bind fun r2 => nmd (x3 + (-1 : Int32)) fun y3 => mX6_lay_25 n r2 x1 x2 y3)
def mX6_lay (M : gMem) (x1 : Nat) (x2 : Nat) : Option gMem := (mX2_become M 54 x1).bind fun r1 => (mX2_clear r1 58).bind fun r2 => (mX2_clear r2 62).bind fun r3 => mX6_lay_25 FU r3 x1 x2 (32 : Int32)
set_option maxHeartbeats 4000000 in
set_option maxRecDepth 100000 in
theorem wX6_lay_44 {p : Program} {l : Launch} {e : Env} {s : State} {m : MethodId} {args : Array Value} {below : List Frame} {meth : Method} {c : Code} {D : va_G} {cy : gCy} {ad : Nat → Nat} {r0 : gMem} (S : CallFix p m c cX6_lay 4 s args wsX6_lay RX6) (hr : meth.sig.returnType = none) (hlk : meth.locks = false) : ∀ (n : Nat), ∀ (M : gMem) (H : Heap) (locs : List Loc), gW shC D cy ad s s.heap M H locs → ∀ (x1 : Nat) (hL1 : isL x1) (x2 : Nat) (hL2 : isL x2) (x3 : Int32), ∀ (ls : Array Slot), lv_has ls 4 [(0, .ref (ad 53)), (1, .ref (ad x1)), (2, .ref (ad x2)), (3, .int x3)] → mX6_lay_44 n M x1 x2 x3 = some r0 → W p l e (gR 5 114) s m args below meth c H locs 0 0 (MQ below (gQv shC D cy ad r0) args s 0 0 (gA shC ad)) (F0 m 44 ls []) := by
  intro n
  induction n with
  | zero => intro M H locs C x1 hL1 x2 hL2 x3 ls hl hm; exact absurd hm (by simp [mX6_lay_44])
  | succ n ih =>
    intro M H locs C x1 hL1 x2 hL2 x3 ls hl hm
    rw [mX6_lay_44] at hm
    refine lv_iload_n S.1 S.2.1 dX6_lay_44 rfl (lv_at hl 3 rfl) ?_
    refine lv_bipush (v := (32 : Int32)) S.1 S.2.1 dX6_lay_45 (by decide) ?_
    refine lv_icmp_gt (tgt := 63) S.1 S.2.1 dX6_lay_47 (by decide) (fun c1 => ?_) (fun c1 => ?_)
    · rw [if_pos c1] at hm
      refine lv_aload_n S.1 S.2.1 dX6_lay_63 rfl (lv_at hl 0 rfl) ?_
      refine lv_aload_n S.1 S.2.1 dX6_lay_64 rfl (lv_at hl 0 rfl) ?_
      refine g_get (k := 53) (ci := 5) (f := 1) (v := .ref (ad 58))  S C kiX6_lay_X6 kfX6_lay_20 rfl (by decide) shC_53 rfl rfl dX6_lay_65 ?_
      refine g_get (k := 58) (ci := 2) (f := 4) (v := .int (M.1 58 4))  S C kiX6_lay_X2 kfX6_lay_48 rfl (by decide) isL_58.1 rfl rfl dX6_lay_68 ?_
      refine lv_aload_n S.1 S.2.1 dX6_lay_71 rfl (lv_at hl 0 rfl) ?_
      refine g_get (k := 53) (ci := 5) (f := 2) (v := .ref (ad 62))  S C kiX6_lay_X6 kfX6_lay_23 rfl (by decide) shC_53 rfl rfl dX6_lay_72 ?_
      refine g_get (k := 62) (ci := 2) (f := 4) (v := .int (M.1 62 4))  S C kiX6_lay_X2 kfX6_lay_48 rfl (by decide) isL_62.1 rfl rfl dX6_lay_75 ?_
      refine lv_iadd S.1 S.2.1 dX6_lay_78 ?_
      obtain ⟨M2, eM2, hm⟩ := nmd_ok hm
      refine g_put (M' := (sI M 53 4 ((M.1 58 4) + (M.1 62 4)))) (k := 53) (ci := 5) (f := 4) (v := .int ((M.1 58 4) + (M.1 62 4))) (ty := .int) S C kiX6_lay_X6 tyX6 tyX6_ok nmX6 kfX6_lay_30 rfl (by decide) rfl (by decide +kernel) rfl rfl shC_53 rfl (Nat.le_of_ble_eq_true rfl) (by rw [sI_at]; rfl) sI_off dX6_lay_79 (fun H locs C => ?_)
      rw [← eM2] at C
      exact gRetv S hr hlk C (Option.some.inj hm) dX6_lay_82
    · rw [if_neg c1] at hm
      refine lv_aload_n S.1 S.2.1 dX6_lay_50 rfl (lv_at hl 0 rfl) ?_
      refine lv_aload_n S.1 S.2.1 dX6_lay_51 rfl (lv_at hl 1 rfl) ?_
      refine lv_aload_n S.1 S.2.1 dX6_lay_52 rfl (lv_at hl 2 rfl) ?_
      refine lv_iload_n S.1 S.2.1 dX6_lay_53 rfl (lv_at hl 3 rfl) ?_
      obtain ⟨r3, hcr3, hm⟩ := bd_ok hm
      refine gC_v C (gRV (k := 53) (ci := 5) (r := (RX6, TX6, 5)) (As := [.ref (ad x1), .ref (ad x2), .int x3]) (rest := []) 3 S C (c_X6_appendDrops l D cy ad M x1 hL1 x2 hL2 x3 r3 hcr3) gX6_lay_X6_appendDrops rfl (by decide +kernel) (by decide) shC_53 rfl rfl rfl hl.1 rfl (Nat.le_of_ble_eq_true rfl) dX6_lay_54) (fun H locs C => ?_)
      obtain ⟨y4, ey4, hm⟩ := nmd_ok hm
      refine lv_iinc (v := y4) (lv' := [(3, .int y4), (0, .ref (ad 53)), (1, .ref (ad x1)), (2, .ref (ad x2))]) S.1 S.2.1 dX6_lay_57 hl (k := 3) rfl (by rw [ey4]; rfl) (by decide) rfl (fun ls hl => ?_)
      refine lv_goto (tgt := 44) S.1 S.2.1 dX6_lay_60 (by decide) ?_
      exact ih r3 _ _ C x1 hL1 x2 hL2 y4 ls (lv_sub hl [1, 2, 3, 0] rfl) hm
set_option maxHeartbeats 4000000 in
set_option maxRecDepth 100000 in
theorem wX6_lay_25 {p : Program} {l : Launch} {e : Env} {s : State} {m : MethodId} {args : Array Value} {below : List Frame} {meth : Method} {c : Code} {D : va_G} {cy : gCy} {ad : Nat → Nat} {r0 : gMem} (S : CallFix p m c cX6_lay 4 s args wsX6_lay RX6) (hr : meth.sig.returnType = none) (hlk : meth.locks = false) : ∀ (n : Nat), ∀ (M : gMem) (H : Heap) (locs : List Loc), gW shC D cy ad s s.heap M H locs → ∀ (x1 : Nat) (hL1 : isL x1) (x2 : Nat) (hL2 : isL x2) (x3 : Int32), ∀ (ls : Array Slot), lv_has ls 4 [(0, .ref (ad 53)), (1, .ref (ad x1)), (2, .ref (ad x2)), (3, .int x3)] → mX6_lay_25 n M x1 x2 x3 = some r0 → W p l e (gR 5 114) s m args below meth c H locs 0 0 (MQ below (gQv shC D cy ad r0) args s 0 0 (gA shC ad)) (F0 m 25 ls []) := by
  intro n
  induction n with
  | zero => intro M H locs C x1 hL1 x2 hL2 x3 ls hl hm; exact absurd hm (by simp [mX6_lay_25])
  | succ n ih =>
    intro M H locs C x1 hL1 x2 hL2 x3 ls hl hm
    rw [mX6_lay_25] at hm
    refine lv_iload_n S.1 S.2.1 dX6_lay_25 rfl (lv_at hl 3 rfl) ?_
    refine lv_if_lt (tgt := 42) S.1 S.2.1 dX6_lay_26 (by decide) (fun c1 => ?_) (fun c1 => ?_)
    · rw [if_pos c1] at hm
      refine lv_iconst (v := (0 : Int32)) S.1 S.2.1 dX6_lay_42 (by decide) ?_
      refine lv_istore_n (lv' := [(3, .int (0 : Int32)), (0, .ref (ad 53)), (1, .ref (ad x1)), (2, .ref (ad x2))]) S.1 S.2.1 dX6_lay_43 rfl hl (by decide) rfl (fun ls hl => ?_)
      exact wX6_lay_44 S hr hlk FU M _ _ C x1 hL1 x2 hL2 (0 : Int32) ls (lv_sub hl [1, 2, 3, 0] rfl) hm
    · rw [if_neg c1] at hm
      refine lv_aload_n S.1 S.2.1 dX6_lay_29 rfl (lv_at hl 0 rfl) ?_
      refine lv_aload_n S.1 S.2.1 dX6_lay_30 rfl (lv_at hl 1 rfl) ?_
      refine lv_aload_n S.1 S.2.1 dX6_lay_31 rfl (lv_at hl 2 rfl) ?_
      refine lv_iload_n S.1 S.2.1 dX6_lay_32 rfl (lv_at hl 3 rfl) ?_
      obtain ⟨r2, hcr2, hm⟩ := bd_ok hm
      refine gC_v C (gRV (k := 53) (ci := 5) (r := (RX6, TX6, 5)) (As := [.ref (ad x1), .ref (ad x2), .int x3]) (rest := []) 3 S C (c_X6_appendPuts l D cy ad M x1 hL1 x2 hL2 x3 r2 hcr2) gX6_lay_X6_appendPuts rfl (by decide +kernel) (by decide) shC_53 rfl rfl rfl hl.1 rfl (Nat.le_of_ble_eq_true rfl) dX6_lay_33) (fun H locs C => ?_)
      obtain ⟨y3, ey3, hm⟩ := nmd_ok hm
      refine lv_iinc (v := y3) (lv' := [(3, .int y3), (0, .ref (ad 53)), (1, .ref (ad x1)), (2, .ref (ad x2))]) S.1 S.2.1 dX6_lay_36 hl (k := 3) rfl (by rw [ey3]; rfl) (by decide) rfl (fun ls hl => ?_)
      refine lv_goto (tgt := 25) S.1 S.2.1 dX6_lay_39 (by decide) ?_
      exact ih r2 _ _ C x1 hL1 x2 hL2 y3 ls (lv_sub hl [1, 2, 3, 0] rfl) hm
set_option maxHeartbeats 4000000 in
set_option maxRecDepth 100000 in
theorem c_X6_lay (l : Launch) (D : va_G) (cy : gCy) (ad : Nat → Nat) (M : gMem) (x1 : Nat) (hL1 : isL x1) (x2 : Nat) (hL2 : isL x2) (r0 : gMem) (hm : mX6_lay M x1 x2 = some r0) : Met l yX6_lay wsX6_lay (gR 5 114) (va_Pc [.ref (ad 53), .ref (ad x1), .ref (ad x2)] (gP shC D cy ad M)) (gQv shC D cy ad r0) 0 0 (gA shC ad) := by
  refine gEnter (cc := cX6_lay) (maxL := 4) (ret := none) (by decide) rfl (Nat.le_of_ble_eq_true rfl) ?_
  intro p e s m below meth c ls S hr hlk C hl
  have S : CallFix p m c cX6_lay 4 s _ wsX6_lay RX6 := S
  have hl : lv_has ls 4 [(0, .ref (ad 53)), (1, .ref (ad x1)), (2, .ref (ad x2))] := hl
  rw [mX6_lay] at hm
  refine lv_aload_n S.1 S.2.1 dX6_lay_0 rfl (lv_at hl 0 rfl) ?_
  refine g_get (k := 53) (ci := 5) (f := 0) (v := .ref (ad 54))  S C kiX6_lay_X6 kfX6_lay_14 rfl (by decide) shC_53 rfl rfl dX6_lay_1 ?_
  refine lv_aload_n S.1 S.2.1 dX6_lay_4 rfl (lv_at hl 1 rfl) ?_
  obtain ⟨r1, hcr1, hm⟩ := bd_ok hm
  refine gC_v C (gRV (k := 54) (ci := 2) (r := (RX2, TX2, 5)) (As := [.ref (ad x1)]) (rest := []) 1 S C (c_X2_become l D cy ad M 54 isL_54 x1 hL1 r1 hcr1) gX6_lay_X2_become rfl (by decide +kernel) (by decide) isL_54.1 rfl rfl rfl hl.1 rfl (Nat.le_of_ble_eq_true rfl) dX6_lay_5) (fun H locs C => ?_)
  refine lv_aload_n S.1 S.2.1 dX6_lay_8 rfl (lv_at hl 0 rfl) ?_
  refine g_get (k := 53) (ci := 5) (f := 1) (v := .ref (ad 58))  S C kiX6_lay_X6 kfX6_lay_20 rfl (by decide) shC_53 rfl rfl dX6_lay_9 ?_
  obtain ⟨r2, hcr2, hm⟩ := bd_ok hm
  refine gC_v C (gRV (k := 58) (ci := 2) (r := (RX2, TX2, 5)) (As := []) (rest := []) 0 S C (c_X2_clear l D cy ad r1 58 isL_58 r2 hcr2) gX6_lay_X2_clear rfl (by decide +kernel) (by decide) isL_58.1 rfl rfl rfl hl.1 rfl (Nat.le_of_ble_eq_true rfl) dX6_lay_12) (fun H locs C => ?_)
  refine lv_aload_n S.1 S.2.1 dX6_lay_15 rfl (lv_at hl 0 rfl) ?_
  refine g_get (k := 53) (ci := 5) (f := 2) (v := .ref (ad 62))  S C kiX6_lay_X6 kfX6_lay_23 rfl (by decide) shC_53 rfl rfl dX6_lay_16 ?_
  obtain ⟨r3, hcr3, hm⟩ := bd_ok hm
  refine gC_v C (gRV (k := 62) (ci := 2) (r := (RX2, TX2, 5)) (As := []) (rest := []) 0 S C (c_X2_clear l D cy ad r2 62 isL_62 r3 hcr3) gX6_lay_X2_clear rfl (by decide +kernel) (by decide) isL_62.1 rfl rfl rfl hl.1 rfl (Nat.le_of_ble_eq_true rfl) dX6_lay_19) (fun H locs C => ?_)
  refine lv_bipush (v := (32 : Int32)) S.1 S.2.1 dX6_lay_22 (by decide) ?_
  refine lv_istore_n (lv' := [(3, .int (32 : Int32)), (0, .ref (ad 53)), (1, .ref (ad x1)), (2, .ref (ad x2))]) S.1 S.2.1 dX6_lay_24 rfl hl (by decide) rfl (fun ls hl => ?_)
  exact wX6_lay_25 S hr hlk FU r3 _ _ C x1 hL1 x2 hL2 (32 : Int32) ls (lv_sub hl [1, 2, 3, 0] rfl) hm
def mX6_tell_67 (M : gMem) (x2 : Int32) (x3 : Int32) (x4 : Nat) (z0 : Int32) : Option Int64 := if x2 = (0 : Int32) then (if x3 = 0 then (some (0 : Int64)) else (some (1 : Int64))) else (if x2 = (1 : Int32) then ((mX2_first M x4 z0).bind fun r4 => some r4) else (if x2 = (2 : Int32) then (ck (inb z0 (lnOf x4)) <| some ((M.1 (x4 + 2) z0.toNatClampNeg).toInt64)) else (if x2 = (3 : Int32) then (ck (inb z0 (lnOf x4)) <| some ((M.1 (x4 + 3) z0.toNatClampNeg).toInt64)) else (some (-1 : Int64)))))
def mX6_tell_48 (M : gMem) (x1 : Int32) (x2 : Int32) (x3 : Int32) (z0 : Nat) : Option Int64 := if x3 = 0 then (mX6_tell_67 M x2 x3 z0 (x1 - (M.1 58 4))) else (mX6_tell_67 M x2 x3 z0 x1)
def mX6_tell_32 (M : gMem) (x1 : Int32) (x2 : Int32) (z0 : Int32) : Option Int64 := if z0 = 0 then (mX6_tell_48 M x1 x2 z0 62) else (mX6_tell_48 M x1 x2 z0 58)
def mX6_tell (M : gMem) (x1 : Int32) (x2 : Int32) : Option Int64 := if x1 < 0 then (some (-1 : Int64)) else (if x1 < (M.1 53 4) then (if (M.1 58 4) ≤ x1 then (mX6_tell_32 M x1 x2 (0 : Int32)) else (mX6_tell_32 M x1 x2 (1 : Int32))) else (some (-1 : Int64)))
set_option maxHeartbeats 4000000 in
set_option maxRecDepth 100000 in
theorem wX6_tell_67 {p : Program} {l : Launch} {e : Env} {s : State} {m : MethodId} {args : Array Value} {below : List Frame} {meth : Method} {c : Code} {D : va_G} {cy : gCy} {ad : Nat → Nat} {M : gMem} {r0 : Int64} (S : CallFix p m c cX6_tell 6 s args wsX6_tell RX6) (hr : meth.sig.returnType = (some .long)) (hlk : meth.locks = false) : ∀ (H : Heap) (locs : List Loc), gW shC D cy ad s s.heap M H locs → ∀ (x2 : Int32) (x3 : Int32) (x4 : Nat) (hL4 : isL x4) (z0 : Int32), ∀ (ls : Array Slot), lv_has ls 6 [(2, .int x2), (3, .int x3), (4, .ref (ad x4))] → mX6_tell_67 M x2 x3 x4 z0 = some r0 → W p l e (gR 2 41) s m args below meth c H locs 0 0 (MQ below (gQl shC D cy ad r0 M) args s 0 0 (gA shC ad)) (F0 m 67 ls [.int z0]) := by
  intro H locs C x2 x3 x4 hL4 z0 ls hl hm
  rw [mX6_tell_67] at hm
  refine lv_istore (lv' := [(5, .int z0), (2, .int x2), (3, .int x3), (4, .ref (ad x4))]) S.1 S.2.1 dX6_tell_67 hl (by decide) rfl (fun ls hl => ?_)
  refine lv_iload_n S.1 S.2.1 dX6_tell_69 rfl (lv_at hl 1 rfl) ?_
  by_cases c1 : x2 = (0 : Int32)
  · rw [if_pos c1] at hm
    refine lv_tableIn (tgt := 100) S.1 S.2.1 dX6_tell_70 (by rw [c1]; decide) (by rw [c1]; decide) (by rw [c1]; rfl) (by decide) ?_
    refine lv_iload_n S.1 S.2.1 dX6_tell_100 rfl (lv_at hl 2 rfl) ?_
    refine lv_if_eq (tgt := 108) S.1 S.2.1 dX6_tell_101 (by decide) (fun c2 => ?_) (fun c2 => ?_)
    · rw [if_pos c2] at hm
      refine lv_lconst (v := (0 : Int64)) S.1 S.2.1 dX6_tell_108 (by decide) ?_
      exact gRetl S hr hlk C (Option.some.inj hm) rfl dX6_tell_109
    · rw [if_neg c2] at hm
      refine lv_lconst (v := (1 : Int64)) S.1 S.2.1 dX6_tell_104 (by decide) ?_
      refine lv_goto (tgt := 109) S.1 S.2.1 dX6_tell_105 (by decide) ?_
      exact gRetl S hr hlk C (Option.some.inj hm) rfl dX6_tell_109
  · rw [if_neg c1] at hm
    by_cases c3 : x2 = (1 : Int32)
    · rw [if_pos c3] at hm
      refine lv_tableIn (tgt := 110) S.1 S.2.1 dX6_tell_70 (by rw [c3]; decide) (by rw [c3]; decide) (by rw [c3]; rfl) (by decide) ?_
      refine lv_aload S.1 S.2.1 dX6_tell_110 (lv_at hl 3 rfl) ?_
      refine lv_iload S.1 S.2.1 dX6_tell_112 (lv_at hl 0 rfl) ?_
      obtain ⟨r4, hcr4, hm⟩ := bd_ok hm
      refine gC_l C (gRV (k := x4) (ci := 2) (r := (RX2, TX2, 5)) (As := [.int z0]) (rest := []) 1 S C (c_X2_first l D cy ad M x4 hL4 z0 r4 hcr4) gX6_tell_X2_first rfl (by decide +kernel) (by decide) hL4.1 rfl rfl rfl hl.1 rfl (Nat.le_of_ble_eq_true rfl) dX6_tell_114) (fun H locs C => ?_)
      exact gRetl S hr hlk C (Option.some.inj hm) rfl dX6_tell_117
    · rw [if_neg c3] at hm
      by_cases c5 : x2 = (2 : Int32)
      · rw [if_pos c5] at hm
        refine lv_tableIn (tgt := 118) S.1 S.2.1 dX6_tell_70 (by rw [c5]; decide) (by rw [c5]; decide) (by rw [c5]; rfl) (by decide) ?_
        refine lv_aload S.1 S.2.1 dX6_tell_118 (lv_at hl 3 rfl) ?_
        refine g_get (k := x4) (ci := 2) (f := 1) (v := .ref (ad (x4 + 2)))  S C kiX6_tell_X2 kfX6_tell_49 rfl (by decide) hL4.1 rfl rfl dX6_tell_120 ?_
        refine lv_iload S.1 S.2.1 dX6_tell_123 (lv_at hl 0 rfl) ?_
        obtain ⟨h6, hm⟩ := ck_ok hm
        refine g_iald S C (k := (x4 + 2)) (hL4).2.2.1 h6 dX6_tell_125 ?_
        refine lv_i2l (v := (M.1 (x4 + 2) z0.toNatClampNeg).toInt64) S.1 S.2.1 dX6_tell_126 rfl ?_
        exact gRetl S hr hlk C (Option.some.inj hm) rfl dX6_tell_127
      · rw [if_neg c5] at hm
        by_cases c7 : x2 = (3 : Int32)
        · rw [if_pos c7] at hm
          refine lv_tableIn (tgt := 128) S.1 S.2.1 dX6_tell_70 (by rw [c7]; decide) (by rw [c7]; decide) (by rw [c7]; rfl) (by decide) ?_
          refine lv_aload S.1 S.2.1 dX6_tell_128 (lv_at hl 3 rfl) ?_
          refine g_get (k := x4) (ci := 2) (f := 2) (v := .ref (ad (x4 + 3)))  S C kiX6_tell_X2 kfX6_tell_55 rfl (by decide) hL4.1 rfl rfl dX6_tell_130 ?_
          refine lv_iload S.1 S.2.1 dX6_tell_133 (lv_at hl 0 rfl) ?_
          obtain ⟨h8, hm⟩ := ck_ok hm
          refine g_iald S C (k := (x4 + 3)) (hL4).2.2.2 h8 dX6_tell_135 ?_
          refine lv_i2l (v := (M.1 (x4 + 3) z0.toNatClampNeg).toInt64) S.1 S.2.1 dX6_tell_136 rfl ?_
          exact gRetl S hr hlk C (Option.some.inj hm) rfl dX6_tell_137
        · rw [if_neg c7] at hm
          refine lv_tableOut (tgt := 138) S.1 S.2.1 dX6_tell_70 (tb4 c1 c3 c5 c7) (by decide) ?_
          refine lv_ldc2 (v := (-1 : Int64)) S.1 S.2.1 S.2.2.2.1 (S.2.2.2.2 _ kcX6_tell_70) dX6_tell_138 ?_
          exact gRetl S hr hlk C (Option.some.inj hm) rfl dX6_tell_141
set_option maxHeartbeats 4000000 in
set_option maxRecDepth 100000 in
theorem wX6_tell_48 {p : Program} {l : Launch} {e : Env} {s : State} {m : MethodId} {args : Array Value} {below : List Frame} {meth : Method} {c : Code} {D : va_G} {cy : gCy} {ad : Nat → Nat} {M : gMem} {r0 : Int64} (S : CallFix p m c cX6_tell 6 s args wsX6_tell RX6) (hr : meth.sig.returnType = (some .long)) (hlk : meth.locks = false) : ∀ (H : Heap) (locs : List Loc), gW shC D cy ad s s.heap M H locs → ∀ (x1 : Int32) (x2 : Int32) (x3 : Int32) (z0 : Nat) (hz0 : isL z0), ∀ (ls : Array Slot), lv_has ls 6 [(0, .ref (ad 53)), (1, .int x1), (2, .int x2), (3, .int x3)] → mX6_tell_48 M x1 x2 x3 z0 = some r0 → W p l e (gR 2 41) s m args below meth c H locs 0 0 (MQ below (gQl shC D cy ad r0 M) args s 0 0 (gA shC ad)) (F0 m 48 ls [.ref (ad z0)]) := by
  intro H locs C x1 x2 x3 z0 hz0 ls hl hm
  rw [mX6_tell_48] at hm
  refine lv_astore (lv' := [(4, .ref (ad z0)), (0, .ref (ad 53)), (1, .int x1), (2, .int x2), (3, .int x3)]) S.1 S.2.1 dX6_tell_48 hl (by decide) rfl (fun ls hl => ?_)
  refine lv_iload_n S.1 S.2.1 dX6_tell_50 rfl (lv_at hl 4 rfl) ?_
  refine lv_if_eq (tgt := 58) S.1 S.2.1 dX6_tell_51 (by decide) (fun c1 => ?_) (fun c1 => ?_)
  · rw [if_pos c1] at hm
    refine lv_iload_n S.1 S.2.1 dX6_tell_58 rfl (lv_at hl 2 rfl) ?_
    refine lv_aload_n S.1 S.2.1 dX6_tell_59 rfl (lv_at hl 1 rfl) ?_
    refine g_get (k := 53) (ci := 5) (f := 1) (v := .ref (ad 58))  S C kiX6_tell_X6 kfX6_tell_20 rfl (by decide) shC_53 rfl rfl dX6_tell_60 ?_
    refine g_get (k := 58) (ci := 2) (f := 4) (v := .int (M.1 58 4))  S C kiX6_tell_X2 kfX6_tell_48 rfl (by decide) isL_58.1 rfl rfl dX6_tell_63 ?_
    refine lv_isub S.1 S.2.1 dX6_tell_66 ?_
    exact wX6_tell_67 S hr hlk _ _ C x2 x3 z0 hz0 (x1 - (M.1 58 4)) ls (lv_sub hl [3, 4, 0] rfl) hm
  · rw [if_neg c1] at hm
    refine lv_iload_n S.1 S.2.1 dX6_tell_54 rfl (lv_at hl 2 rfl) ?_
    refine lv_goto (tgt := 67) S.1 S.2.1 dX6_tell_55 (by decide) ?_
    exact wX6_tell_67 S hr hlk _ _ C x2 x3 z0 hz0 x1 ls (lv_sub hl [3, 4, 0] rfl) hm
set_option maxHeartbeats 4000000 in
set_option maxRecDepth 100000 in
theorem wX6_tell_32 {p : Program} {l : Launch} {e : Env} {s : State} {m : MethodId} {args : Array Value} {below : List Frame} {meth : Method} {c : Code} {D : va_G} {cy : gCy} {ad : Nat → Nat} {M : gMem} {r0 : Int64} (S : CallFix p m c cX6_tell 6 s args wsX6_tell RX6) (hr : meth.sig.returnType = (some .long)) (hlk : meth.locks = false) : ∀ (H : Heap) (locs : List Loc), gW shC D cy ad s s.heap M H locs → ∀ (x1 : Int32) (x2 : Int32) (z0 : Int32), ∀ (ls : Array Slot), lv_has ls 6 [(0, .ref (ad 53)), (1, .int x1), (2, .int x2)] → mX6_tell_32 M x1 x2 z0 = some r0 → W p l e (gR 2 41) s m args below meth c H locs 0 0 (MQ below (gQl shC D cy ad r0 M) args s 0 0 (gA shC ad)) (F0 m 32 ls [.int z0]) := by
  intro H locs C x1 x2 z0 ls hl hm
  rw [mX6_tell_32] at hm
  refine lv_istore_n (lv' := [(3, .int z0), (0, .ref (ad 53)), (1, .int x1), (2, .int x2)]) S.1 S.2.1 dX6_tell_32 rfl hl (by decide) rfl (fun ls hl => ?_)
  refine lv_iload_n S.1 S.2.1 dX6_tell_33 rfl (lv_at hl 0 rfl) ?_
  refine lv_if_eq (tgt := 44) S.1 S.2.1 dX6_tell_34 (by decide) (fun c1 => ?_) (fun c1 => ?_)
  · rw [if_pos c1] at hm
    refine lv_aload_n S.1 S.2.1 dX6_tell_44 rfl (lv_at hl 1 rfl) ?_
    refine g_get (k := 53) (ci := 5) (f := 2) (v := .ref (ad 62))  S C kiX6_tell_X6 kfX6_tell_23 rfl (by decide) shC_53 rfl rfl dX6_tell_45 ?_
    exact wX6_tell_48 S hr hlk _ _ C x1 x2 z0 62 isL_62 ls (lv_sub hl [1, 2, 3, 0] rfl) hm
  · rw [if_neg c1] at hm
    refine lv_aload_n S.1 S.2.1 dX6_tell_37 rfl (lv_at hl 1 rfl) ?_
    refine g_get (k := 53) (ci := 5) (f := 1) (v := .ref (ad 58))  S C kiX6_tell_X6 kfX6_tell_20 rfl (by decide) shC_53 rfl rfl dX6_tell_38 ?_
    refine lv_goto (tgt := 48) S.1 S.2.1 dX6_tell_41 (by decide) ?_
    exact wX6_tell_48 S hr hlk _ _ C x1 x2 z0 58 isL_58 ls (lv_sub hl [1, 2, 3, 0] rfl) hm
set_option maxHeartbeats 4000000 in
set_option maxRecDepth 100000 in
theorem c_X6_tell (l : Launch) (D : va_G) (cy : gCy) (ad : Nat → Nat) (M : gMem) (x1 : Int32) (x2 : Int32) (r0 : Int64) (hm : mX6_tell M x1 x2 = some r0) : Met l yX6_tell wsX6_tell (gR 2 41) (va_Pc [.ref (ad 53), .int x1, .int x2] (gP shC D cy ad M)) (gQl shC D cy ad r0 M) 0 0 (gA shC ad) := by
  refine gEnter (cc := cX6_tell) (maxL := 6) (ret := (some .long)) (by decide) rfl (Nat.le_of_ble_eq_true rfl) ?_
  intro p e s m below meth c ls S hr hlk C hl
  have S : CallFix p m c cX6_tell 6 s _ wsX6_tell RX6 := S
  have hl : lv_has ls 6 [(0, .ref (ad 53)), (1, .int x1), (2, .int x2)] := hl
  rw [mX6_tell] at hm
  refine lv_iload_n S.1 S.2.1 dX6_tell_0 rfl (lv_at hl 1 rfl) ?_
  refine lv_if_lt (tgt := 12) S.1 S.2.1 dX6_tell_1 (by decide) (fun c1 => ?_) (fun c1 => ?_)
  · rw [if_pos c1] at hm
    refine lv_ldc2 (v := (-1 : Int64)) S.1 S.2.1 S.2.2.2.1 (S.2.2.2.2 _ kcX6_tell_70) dX6_tell_12 ?_
    exact gRetl S hr hlk C (Option.some.inj hm) rfl dX6_tell_15
  · rw [if_neg c1] at hm
    refine lv_iload_n S.1 S.2.1 dX6_tell_4 rfl (lv_at hl 1 rfl) ?_
    refine lv_aload_n S.1 S.2.1 dX6_tell_5 rfl (lv_at hl 0 rfl) ?_
    refine g_get (k := 53) (ci := 5) (f := 4) (v := .int (M.1 53 4))  S C kiX6_tell_X6 kfX6_tell_30 rfl (by decide) shC_53 rfl rfl dX6_tell_6 ?_
    refine lv_icmp_lt (tgt := 16) S.1 S.2.1 dX6_tell_9 (by decide) (fun c2 => ?_) (fun c2 => ?_)
    · rw [if_pos c2] at hm
      refine lv_iload_n S.1 S.2.1 dX6_tell_16 rfl (lv_at hl 1 rfl) ?_
      refine lv_aload_n S.1 S.2.1 dX6_tell_17 rfl (lv_at hl 0 rfl) ?_
      refine g_get (k := 53) (ci := 5) (f := 1) (v := .ref (ad 58))  S C kiX6_tell_X6 kfX6_tell_20 rfl (by decide) shC_53 rfl rfl dX6_tell_18 ?_
      refine g_get (k := 58) (ci := 2) (f := 4) (v := .int (M.1 58 4))  S C kiX6_tell_X2 kfX6_tell_48 rfl (by decide) isL_58.1 rfl rfl dX6_tell_21 ?_
      refine lv_icmp_ge (tgt := 31) S.1 S.2.1 dX6_tell_24 (by decide) (fun c3 => ?_) (fun c3 => ?_)
      · rw [if_pos c3] at hm
        refine lv_iconst (v := (0 : Int32)) S.1 S.2.1 dX6_tell_31 (by decide) ?_
        exact wX6_tell_32 S hr hlk _ _ C x1 x2 (0 : Int32) ls (lv_sub hl [0, 1, 2] rfl) hm
      · rw [if_neg c3] at hm
        refine lv_iconst (v := (1 : Int32)) S.1 S.2.1 dX6_tell_27 (by decide) ?_
        refine lv_goto (tgt := 32) S.1 S.2.1 dX6_tell_28 (by decide) ?_
        exact wX6_tell_32 S hr hlk _ _ C x1 x2 (1 : Int32) ls (lv_sub hl [0, 1, 2] rfl) hm
    · rw [if_neg c2] at hm
      refine lv_ldc2 (v := (-1 : Int64)) S.1 S.2.1 S.2.2.2.1 (S.2.2.2.2 _ kcX6_tell_70) dX6_tell_12 ?_
      exact gRetl S hr hlk C (Option.some.inj hm) rfl dX6_tell_15
def mX6_noteHolders_3 : Nat → gMem → Nat → Int32 → Int32 → Int32 → Int32 → Option gMem
  | 0, _, _, _, _, _, _ => none
  | n + 1, M, x1, x2, x3, x4, x5 => if x2 ≤ x5 then (some M) else (if (M.1 x1 4) ≤ x5 then (some M) else (ck (inb x5 (lnOf x1)) <| ck (inb x5 (lnOf x1)) <| (mX7_begins x3 (M.1 (x1 + 1) x5.toNatClampNeg) (M.1 (x1 + 2) x5.toNatClampNeg)).bind fun r5 => if r5 = 0 then (nmd (x5 + (1 : Int32)) fun y7 => mX6_noteHolders_3 n M x1 x2 x3 x4 y7) else (ck (inb x5 (lnOf x1)) <| if x4 = 0 then (ck (inb (M.1 (x1 + 2) x5.toNatClampNeg) 33) <| nmd (sI M 66 (M.1 (x1 + 2) x5.toNatClampNeg).toNatClampNeg (-1 : Int32)) fun M11 => nmd (x5 + (1 : Int32)) fun y12 => mX6_noteHolders_3 n M11 x1 x2 x3 x4 y12) else (ck (inb x5 (lnOf x1)) <| ck (inb (M.1 (x1 + 2) x5.toNatClampNeg) 33) <| nmd (sI M 66 (M.1 (x1 + 2) x5.toNatClampNeg).toNatClampNeg (M.1 (x1 + 3) x5.toNatClampNeg)) fun M15 => nmd (x5 + (1 : Int32)) fun y16 => mX6_noteHolders_3 n M15 x1 x2 x3 x4 y16))))
def mX6_noteHolders (M : gMem) (x1 : Nat) (x2 : Int32) (x3 : Int32) (x4 : Int32) : Option gMem := mX6_noteHolders_3 FU M x1 x2 x3 x4 (0 : Int32)
set_option maxHeartbeats 4000000 in
set_option maxRecDepth 100000 in
theorem wX6_noteHolders_3 {p : Program} {l : Launch} {e : Env} {s : State} {m : MethodId} {args : Array Value} {below : List Frame} {meth : Method} {c : Code} {D : va_G} {cy : gCy} {ad : Nat → Nat} {r0 : gMem} (S : CallFix p m c cX6_noteHolders 6 s args wsX6_noteHolders RX6) (hr : meth.sig.returnType = none) (hlk : meth.locks = false) : ∀ (n : Nat), ∀ (M : gMem) (H : Heap) (locs : List Loc), gW shC D cy ad s s.heap M H locs → ∀ (x1 : Nat) (hL1 : isL x1) (x2 : Int32) (x3 : Int32) (x4 : Int32) (x5 : Int32), ∀ (ls : Array Slot), lv_has ls 6 [(0, .ref (ad 53)), (1, .ref (ad x1)), (2, .int x2), (3, .int x3), (4, .int x4), (5, .int x5)] → mX6_noteHolders_3 n M x1 x2 x3 x4 x5 = some r0 → W p l e (gR 3 65) s m args below meth c H locs 0 0 (MQ below (gQv shC D cy ad r0) args s 0 0 (gA shC ad)) (F0 m 3 ls []) := by
  intro n
  induction n with
  | zero => intro M H locs C x1 hL1 x2 x3 x4 x5 ls hl hm; exact absurd hm (by simp [mX6_noteHolders_3])
  | succ n ih =>
    intro M H locs C x1 hL1 x2 x3 x4 x5 ls hl hm
    rw [mX6_noteHolders_3] at hm
    refine lv_iload S.1 S.2.1 dX6_noteHolders_3 (lv_at hl 5 rfl) ?_
    refine lv_iload_n S.1 S.2.1 dX6_noteHolders_5 rfl (lv_at hl 2 rfl) ?_
    refine lv_icmp_ge (tgt := 73) S.1 S.2.1 dX6_noteHolders_6 (by decide) (fun c1 => ?_) (fun c1 => ?_)
    · rw [if_pos c1] at hm
      exact gRetv S hr hlk C (Option.some.inj hm) dX6_noteHolders_73
    · rw [if_neg c1] at hm
      refine lv_iload S.1 S.2.1 dX6_noteHolders_9 (lv_at hl 5 rfl) ?_
      refine lv_aload_n S.1 S.2.1 dX6_noteHolders_11 rfl (lv_at hl 1 rfl) ?_
      refine g_get (k := x1) (ci := 2) (f := 4) (v := .int (M.1 x1 4))  S C kiX6_noteHolders_X2 kfX6_noteHolders_48 rfl (by decide) hL1.1 rfl rfl dX6_noteHolders_12 ?_
      refine lv_icmp_ge (tgt := 73) S.1 S.2.1 dX6_noteHolders_15 (by decide) (fun c2 => ?_) (fun c2 => ?_)
      · rw [if_pos c2] at hm
        exact gRetv S hr hlk C (Option.some.inj hm) dX6_noteHolders_73
      · rw [if_neg c2] at hm
        refine lv_iload_n S.1 S.2.1 dX6_noteHolders_18 rfl (lv_at hl 3 rfl) ?_
        refine lv_aload_n S.1 S.2.1 dX6_noteHolders_19 rfl (lv_at hl 1 rfl) ?_
        refine g_get (k := x1) (ci := 2) (f := 0) (v := .ref (ad (x1 + 1)))  S C kiX6_noteHolders_X2 kfX6_noteHolders_52 rfl (by decide) hL1.1 rfl rfl dX6_noteHolders_20 ?_
        refine lv_iload S.1 S.2.1 dX6_noteHolders_23 (lv_at hl 5 rfl) ?_
        obtain ⟨h3, hm⟩ := ck_ok hm
        refine g_iald S C (k := (x1 + 1)) (hL1).2.1 h3 dX6_noteHolders_25 ?_
        refine lv_aload_n S.1 S.2.1 dX6_noteHolders_26 rfl (lv_at hl 1 rfl) ?_
        refine g_get (k := x1) (ci := 2) (f := 1) (v := .ref (ad (x1 + 2)))  S C kiX6_noteHolders_X2 kfX6_noteHolders_49 rfl (by decide) hL1.1 rfl rfl dX6_noteHolders_27 ?_
        refine lv_iload S.1 S.2.1 dX6_noteHolders_30 (lv_at hl 5 rfl) ?_
        obtain ⟨h4, hm⟩ := ck_ok hm
        refine g_iald S C (k := (x1 + 2)) (hL1).2.2.1 h4 dX6_noteHolders_32 ?_
        obtain ⟨r5, hcr5, hm⟩ := bd_ok hm
        refine gC_i C (gRSN (host := "PrefixLeader") (As := [.int x3, .int (M.1 (x1 + 1) x5.toNatClampNeg), .int (M.1 (x1 + 2) x5.toNatClampNeg)]) (rest := []) 3 S C (c_X7_begins l D cy ad M x3 (M.1 (x1 + 1) x5.toNatClampNeg) (M.1 (x1 + 2) x5.toNatClampNeg) r5 hcr5) gX6_noteHolders_X7_begins_n86 rfl (by decide +kernel) knX6_noteHolders_X7_beginsi knX6_noteHolders_X7_beginss (by decide +kernel) (by decide) rfl hl.1 rfl (Nat.le_of_ble_eq_true rfl) dX6_noteHolders_33) (fun H locs C => ?_)
        refine lv_if_eq (tgt := 67) S.1 S.2.1 dX6_noteHolders_36 (by decide) (fun c6 => ?_) (fun c6 => ?_)
        · rw [if_pos c6] at hm
          obtain ⟨y7, ey7, hm⟩ := nmd_ok hm
          refine lv_iinc (v := y7) (lv' := [(5, .int y7), (0, .ref (ad 53)), (1, .ref (ad x1)), (2, .int x2), (3, .int x3), (4, .int x4)]) S.1 S.2.1 dX6_noteHolders_67 hl (k := 5) rfl (by rw [ey7]; rfl) (by decide) rfl (fun ls hl => ?_)
          refine lv_goto (tgt := 3) S.1 S.2.1 dX6_noteHolders_70 (by decide) ?_
          exact ih M _ _ C x1 hL1 x2 x3 x4 y7 ls (lv_sub hl [1, 2, 3, 4, 5, 0] rfl) hm
        · rw [if_neg c6] at hm
          refine lv_aload_n S.1 S.2.1 dX6_noteHolders_39 rfl (lv_at hl 0 rfl) ?_
          refine g_get (k := 53) (ci := 5) (f := 3) (v := .ref (ad 66))  S C kiX6_noteHolders_X6 kfX6_noteHolders_26 rfl (by decide) shC_53 rfl rfl dX6_noteHolders_40 ?_
          refine lv_aload_n S.1 S.2.1 dX6_noteHolders_43 rfl (lv_at hl 1 rfl) ?_
          refine g_get (k := x1) (ci := 2) (f := 1) (v := .ref (ad (x1 + 2)))  S C kiX6_noteHolders_X2 kfX6_noteHolders_49 rfl (by decide) hL1.1 rfl rfl dX6_noteHolders_44 ?_
          refine lv_iload S.1 S.2.1 dX6_noteHolders_47 (lv_at hl 5 rfl) ?_
          obtain ⟨h8, hm⟩ := ck_ok hm
          refine g_iald S C (k := (x1 + 2)) (hL1).2.2.1 h8 dX6_noteHolders_49 ?_
          refine lv_iload S.1 S.2.1 dX6_noteHolders_50 (lv_at hl 4 rfl) ?_
          refine lv_if_eq (tgt := 65) S.1 S.2.1 dX6_noteHolders_52 (by decide) (fun c9 => ?_) (fun c9 => ?_)
          · rw [if_pos c9] at hm
            refine lv_iconst (v := (-1 : Int32)) S.1 S.2.1 dX6_noteHolders_65 (by decide) ?_
            obtain ⟨h10, hm⟩ := ck_ok hm
            obtain ⟨M11, eM11, hm⟩ := nmd_ok hm
            refine g_iast S C (k := 66) shC_66 h10 dX6_noteHolders_66 (fun H locs C => ?_)
            rw [← eM11] at C
            obtain ⟨y12, ey12, hm⟩ := nmd_ok hm
            refine lv_iinc (v := y12) (lv' := [(5, .int y12), (0, .ref (ad 53)), (1, .ref (ad x1)), (2, .int x2), (3, .int x3), (4, .int x4)]) S.1 S.2.1 dX6_noteHolders_67 hl (k := 5) rfl (by rw [ey12]; rfl) (by decide) rfl (fun ls hl => ?_)
            refine lv_goto (tgt := 3) S.1 S.2.1 dX6_noteHolders_70 (by decide) ?_
            exact ih M11 _ _ C x1 hL1 x2 x3 x4 y12 ls (lv_sub hl [1, 2, 3, 4, 5, 0] rfl) hm
          · rw [if_neg c9] at hm
            refine lv_aload_n S.1 S.2.1 dX6_noteHolders_55 rfl (lv_at hl 1 rfl) ?_
            refine g_get (k := x1) (ci := 2) (f := 2) (v := .ref (ad (x1 + 3)))  S C kiX6_noteHolders_X2 kfX6_noteHolders_55 rfl (by decide) hL1.1 rfl rfl dX6_noteHolders_56 ?_
            refine lv_iload S.1 S.2.1 dX6_noteHolders_59 (lv_at hl 5 rfl) ?_
            obtain ⟨h13, hm⟩ := ck_ok hm
            refine g_iald S C (k := (x1 + 3)) (hL1).2.2.2 h13 dX6_noteHolders_61 ?_
            refine lv_goto (tgt := 66) S.1 S.2.1 dX6_noteHolders_62 (by decide) ?_
            obtain ⟨h14, hm⟩ := ck_ok hm
            obtain ⟨M15, eM15, hm⟩ := nmd_ok hm
            refine g_iast S C (k := 66) shC_66 h14 dX6_noteHolders_66 (fun H locs C => ?_)
            rw [← eM15] at C
            obtain ⟨y16, ey16, hm⟩ := nmd_ok hm
            refine lv_iinc (v := y16) (lv' := [(5, .int y16), (0, .ref (ad 53)), (1, .ref (ad x1)), (2, .int x2), (3, .int x3), (4, .int x4)]) S.1 S.2.1 dX6_noteHolders_67 hl (k := 5) rfl (by rw [ey16]; rfl) (by decide) rfl (fun ls hl => ?_)
            refine lv_goto (tgt := 3) S.1 S.2.1 dX6_noteHolders_70 (by decide) ?_
            exact ih M15 _ _ C x1 hL1 x2 x3 x4 y16 ls (lv_sub hl [1, 2, 3, 4, 5, 0] rfl) hm
set_option maxHeartbeats 4000000 in
set_option maxRecDepth 100000 in
theorem c_X6_noteHolders (l : Launch) (D : va_G) (cy : gCy) (ad : Nat → Nat) (M : gMem) (x1 : Nat) (hL1 : isL x1) (x2 : Int32) (x3 : Int32) (x4 : Int32) (r0 : gMem) (hm : mX6_noteHolders M x1 x2 x3 x4 = some r0) : Met l yX6_noteHolders wsX6_noteHolders (gR 3 65) (va_Pc [.ref (ad 53), .ref (ad x1), .int x2, .int x3, .int x4] (gP shC D cy ad M)) (gQv shC D cy ad r0) 0 0 (gA shC ad) := by
  refine gEnter (cc := cX6_noteHolders) (maxL := 6) (ret := none) (by decide) rfl (Nat.le_of_ble_eq_true rfl) ?_
  intro p e s m below meth c ls S hr hlk C hl
  have S : CallFix p m c cX6_noteHolders 6 s _ wsX6_noteHolders RX6 := S
  have hl : lv_has ls 6 [(0, .ref (ad 53)), (1, .ref (ad x1)), (2, .int x2), (3, .int x3), (4, .int x4)] := hl
  rw [mX6_noteHolders] at hm
  refine lv_iconst (v := (0 : Int32)) S.1 S.2.1 dX6_noteHolders_0 (by decide) ?_
  refine lv_istore (lv' := [(5, .int (0 : Int32)), (0, .ref (ad 53)), (1, .ref (ad x1)), (2, .int x2), (3, .int x3), (4, .int x4)]) S.1 S.2.1 dX6_noteHolders_1 hl (by decide) rfl (fun ls hl => ?_)
  exact wX6_noteHolders_3 S hr hlk FU M _ _ C x1 hL1 x2 x3 x4 (0 : Int32) ls (lv_sub hl [1, 2, 3, 4, 5, 0] rfl) hm
def mX6_goalBehind_95 : Nat → gMem → Int32 → Option (Int32 × gMem)
  | 0, _, _ => none
  | n + 1, M, x3 => if x3 < 0 then (some ((16 : Int32), M)) else (ck (inb x3 33) <| if (M.1 66 x3.toNatClampNeg) = (-1 : Int32) then (nmd (x3 + (-1 : Int32)) fun y4 => mX6_goalBehind_95 n M y4) else (ck (inb x3 33) <| some ((M.1 66 x3.toNatClampNeg), M)))
def mX6_goalBehind_16 : Nat → gMem → Int32 → Int32 → Int32 → Option (Int32 × gMem)
  | 0, _, _, _, _ => none
  | n + 1, M, x1, x2, x3 => if (33 : Int32) ≤ x3 then ((mX6_noteHolders M 54 (M.1 54 4) x2 (1 : Int32)).bind fun r2 => (mX6_noteHolders r2 58 (if (r2.1 58 4) < x1 then (r2.1 58 4) else x1) x2 (1 : Int32)).bind fun r3 => (mX6_noteHolders r3 62 (x1 - (r3.1 58 4)) x2 (0 : Int32)).bind fun r4 => mX6_goalBehind_95 FU r4 (32 : Int32)) else (ck (inb x3 33) <| nmd (sI M 66 x3.toNatClampNeg (-1 : Int32)) fun M6 => nmd (x3 + (1 : Int32)) fun y7 => mX6_goalBehind_16 n M6 x1 x2 y7)
def mX6_goalBehind (M : gMem) (x1 : Int32) (x2 : Int32) : Option (Int32 × gMem) := if x1 < 0 then (some ((-1 : Int32), M)) else (if x1 ≤ (M.1 53 4) then (mX6_goalBehind_16 FU M x1 x2 (0 : Int32)) else (some ((-1 : Int32), M)))
set_option maxHeartbeats 4000000 in
set_option maxRecDepth 100000 in
theorem wX6_goalBehind_95 {p : Program} {l : Launch} {e : Env} {s : State} {m : MethodId} {args : Array Value} {below : List Frame} {meth : Method} {c : Code} {D : va_G} {cy : gCy} {ad : Nat → Nat} {r0 : (Int32 × gMem)} (S : CallFix p m c cX6_goalBehind 4 s args wsX6_goalBehind RX6) (hr : meth.sig.returnType = (some .int)) (hlk : meth.locks = false) : ∀ (n : Nat), ∀ (M : gMem) (H : Heap) (locs : List Loc), gW shC D cy ad s s.heap M H locs → ∀ (x3 : Int32), ∀ (ls : Array Slot), lv_has ls 4 [(0, .ref (ad 53)), (3, .int x3)] → mX6_goalBehind_95 n M x3 = some r0 → W p l e (gR 4 90) s m args below meth c H locs 0 0 (MQ below (gQi shC D cy ad r0.1 r0.2) args s 0 0 (gA shC ad)) (F0 m 95 ls []) := by
  intro n
  induction n with
  | zero => intro M H locs C x3 ls hl hm; exact absurd hm (by simp [mX6_goalBehind_95])
  | succ n ih =>
    intro M H locs C x3 ls hl hm
    rw [mX6_goalBehind_95] at hm
    refine lv_iload_n S.1 S.2.1 dX6_goalBehind_95 rfl (lv_at hl 1 rfl) ?_
    refine lv_if_lt (tgt := 122) S.1 S.2.1 dX6_goalBehind_96 (by decide) (fun c1 => ?_) (fun c1 => ?_)
    · rw [if_pos c1] at hm
      refine lv_bipush (v := (16 : Int32)) S.1 S.2.1 dX6_goalBehind_122 (by decide) ?_
      exact gReti S hr hlk C (pr1 hm) (pr2 hm) dX6_goalBehind_124
    · rw [if_neg c1] at hm
      refine lv_aload_n S.1 S.2.1 dX6_goalBehind_99 rfl (lv_at hl 0 rfl) ?_
      refine g_get (k := 53) (ci := 5) (f := 3) (v := .ref (ad 66))  S C kiX6_goalBehind_X6 kfX6_goalBehind_26 rfl (by decide) shC_53 rfl rfl dX6_goalBehind_100 ?_
      refine lv_iload_n S.1 S.2.1 dX6_goalBehind_103 rfl (lv_at hl 1 rfl) ?_
      obtain ⟨h2, hm⟩ := ck_ok hm
      refine g_iald S C (k := 66) shC_66 h2 dX6_goalBehind_104 ?_
      refine lv_iconst (v := (-1 : Int32)) S.1 S.2.1 dX6_goalBehind_105 (by decide) ?_
      refine lv_icmp_eq (tgt := 116) S.1 S.2.1 dX6_goalBehind_106 (by decide) (fun c3 => ?_) (fun c3 => ?_)
      · rw [if_pos c3] at hm
        obtain ⟨y4, ey4, hm⟩ := nmd_ok hm
        refine lv_iinc (v := y4) (lv' := [(3, .int y4), (0, .ref (ad 53))]) S.1 S.2.1 dX6_goalBehind_116 hl (k := 1) rfl (by rw [ey4]; rfl) (by decide) rfl (fun ls hl => ?_)
        refine lv_goto (tgt := 95) S.1 S.2.1 dX6_goalBehind_119 (by decide) ?_
        exact ih M _ _ C y4 ls (lv_sub hl [1, 0] rfl) hm
      · rw [if_neg c3] at hm
        refine lv_aload_n S.1 S.2.1 dX6_goalBehind_109 rfl (lv_at hl 0 rfl) ?_
        refine g_get (k := 53) (ci := 5) (f := 3) (v := .ref (ad 66))  S C kiX6_goalBehind_X6 kfX6_goalBehind_26 rfl (by decide) shC_53 rfl rfl dX6_goalBehind_110 ?_
        refine lv_iload_n S.1 S.2.1 dX6_goalBehind_113 rfl (lv_at hl 1 rfl) ?_
        obtain ⟨h5, hm⟩ := ck_ok hm
        refine g_iald S C (k := 66) shC_66 h5 dX6_goalBehind_114 ?_
        exact gReti S hr hlk C (pr1 hm) (pr2 hm) dX6_goalBehind_115
set_option maxHeartbeats 4000000 in
set_option maxRecDepth 100000 in
theorem wX6_goalBehind_16 {p : Program} {l : Launch} {e : Env} {s : State} {m : MethodId} {args : Array Value} {below : List Frame} {meth : Method} {c : Code} {D : va_G} {cy : gCy} {ad : Nat → Nat} {r0 : (Int32 × gMem)} (S : CallFix p m c cX6_goalBehind 4 s args wsX6_goalBehind RX6) (hr : meth.sig.returnType = (some .int)) (hlk : meth.locks = false) : ∀ (n : Nat), ∀ (M : gMem) (H : Heap) (locs : List Loc), gW shC D cy ad s s.heap M H locs → ∀ (x1 : Int32) (x2 : Int32) (x3 : Int32), ∀ (ls : Array Slot), lv_has ls 4 [(0, .ref (ad 53)), (1, .int x1), (2, .int x2), (3, .int x3)] → mX6_goalBehind_16 n M x1 x2 x3 = some r0 → W p l e (gR 4 90) s m args below meth c H locs 0 0 (MQ below (gQi shC D cy ad r0.1 r0.2) args s 0 0 (gA shC ad)) (F0 m 16 ls []) := by
  intro n
  induction n with
  | zero => intro M H locs C x1 x2 x3 ls hl hm; exact absurd hm (by simp [mX6_goalBehind_16])
  | succ n ih =>
    intro M H locs C x1 x2 x3 ls hl hm
    rw [mX6_goalBehind_16] at hm
    refine lv_iload_n S.1 S.2.1 dX6_goalBehind_16 rfl (lv_at hl 3 rfl) ?_
    refine lv_bipush (v := (33 : Int32)) S.1 S.2.1 dX6_goalBehind_17 (by decide) ?_
    refine lv_icmp_ge (tgt := 35) S.1 S.2.1 dX6_goalBehind_19 (by decide) (fun c1 => ?_) (fun c1 => ?_)
    · rw [if_pos c1] at hm
      refine lv_aload_n S.1 S.2.1 dX6_goalBehind_35 rfl (lv_at hl 0 rfl) ?_
      refine lv_aload_n S.1 S.2.1 dX6_goalBehind_36 rfl (lv_at hl 0 rfl) ?_
      refine g_get (k := 53) (ci := 5) (f := 0) (v := .ref (ad 54))  S C kiX6_goalBehind_X6 kfX6_goalBehind_14 rfl (by decide) shC_53 rfl rfl dX6_goalBehind_37 ?_
      refine lv_aload_n S.1 S.2.1 dX6_goalBehind_40 rfl (lv_at hl 0 rfl) ?_
      refine g_get (k := 53) (ci := 5) (f := 0) (v := .ref (ad 54))  S C kiX6_goalBehind_X6 kfX6_goalBehind_14 rfl (by decide) shC_53 rfl rfl dX6_goalBehind_41 ?_
      refine g_get (k := 54) (ci := 2) (f := 4) (v := .int (M.1 54 4))  S C kiX6_goalBehind_X2 kfX6_goalBehind_48 rfl (by decide) isL_54.1 rfl rfl dX6_goalBehind_44 ?_
      refine lv_iload_n S.1 S.2.1 dX6_goalBehind_47 rfl (lv_at hl 2 rfl) ?_
      refine lv_iconst (v := (1 : Int32)) S.1 S.2.1 dX6_goalBehind_48 (by decide) ?_
      obtain ⟨r2, hcr2, hm⟩ := bd_ok hm
      refine gC_v C (gRV (k := 53) (ci := 5) (r := (RX6, TX6, 5)) (As := [.ref (ad 54), .int (M.1 54 4), .int x2, .int (1 : Int32)]) (rest := []) 4 S C (c_X6_noteHolders l D cy ad M 54 isL_54 (M.1 54 4) x2 (1 : Int32) r2 hcr2) gX6_goalBehind_X6_noteHolders rfl (by decide +kernel) (by decide) shC_53 rfl rfl rfl hl.1 rfl (Nat.le_of_ble_eq_true rfl) dX6_goalBehind_49) (fun H locs C => ?_)
      refine lv_aload_n S.1 S.2.1 dX6_goalBehind_52 rfl (lv_at hl 0 rfl) ?_
      refine lv_aload_n S.1 S.2.1 dX6_goalBehind_53 rfl (lv_at hl 0 rfl) ?_
      refine g_get (k := 53) (ci := 5) (f := 1) (v := .ref (ad 58))  S C kiX6_goalBehind_X6 kfX6_goalBehind_20 rfl (by decide) shC_53 rfl rfl dX6_goalBehind_54 ?_
      refine lv_iload_n S.1 S.2.1 dX6_goalBehind_57 rfl (lv_at hl 1 rfl) ?_
      refine lv_aload_n S.1 S.2.1 dX6_goalBehind_58 rfl (lv_at hl 0 rfl) ?_
      refine g_get (k := 53) (ci := 5) (f := 1) (v := .ref (ad 58))  S C kiX6_goalBehind_X6 kfX6_goalBehind_20 rfl (by decide) shC_53 rfl rfl dX6_goalBehind_59 ?_
      refine g_get (k := 58) (ci := 2) (f := 4) (v := .int (r2.1 58 4))  S C kiX6_goalBehind_X2 kfX6_goalBehind_48 rfl (by decide) isL_58.1 rfl rfl dX6_goalBehind_62 ?_
      refine va_mmin S.1 S.2.1 (S.2.2.1.trans hl.1.symm) S.2.2.2.1 (S.2.2.2.2 _ kmX6_goalBehind_80l) (S.2.2.2.2 _ kmX6_goalBehind_80s) (S.2.2.2.2 _ kmX6_goalBehind_80i) (S.2.2.2.2 _ kmX6_goalBehind_80c) (rest := [.ref (ad 58), .ref (ad 53)]) (Nat.le_of_ble_eq_true rfl) (Nat.le_of_ble_eq_true rfl) (Nat.le_refl _) (Nat.le_refl _) dX6_goalBehind_65 ?_
      refine lv_iload_n S.1 S.2.1 dX6_goalBehind_68 rfl (lv_at hl 2 rfl) ?_
      refine lv_iconst (v := (1 : Int32)) S.1 S.2.1 dX6_goalBehind_69 (by decide) ?_
      obtain ⟨r3, hcr3, hm⟩ := bd_ok hm
      refine gC_v C (gRV (k := 53) (ci := 5) (r := (RX6, TX6, 5)) (As := [.ref (ad 58), .int (if (r2.1 58 4) < x1 then (r2.1 58 4) else x1), .int x2, .int (1 : Int32)]) (rest := []) 4 S C (c_X6_noteHolders l D cy ad r2 58 isL_58 (if (r2.1 58 4) < x1 then (r2.1 58 4) else x1) x2 (1 : Int32) r3 hcr3) gX6_goalBehind_X6_noteHolders rfl (by decide +kernel) (by decide) shC_53 rfl rfl rfl hl.1 rfl (Nat.le_of_ble_eq_true rfl) dX6_goalBehind_70) (fun H locs C => ?_)
      refine lv_aload_n S.1 S.2.1 dX6_goalBehind_73 rfl (lv_at hl 0 rfl) ?_
      refine lv_aload_n S.1 S.2.1 dX6_goalBehind_74 rfl (lv_at hl 0 rfl) ?_
      refine g_get (k := 53) (ci := 5) (f := 2) (v := .ref (ad 62))  S C kiX6_goalBehind_X6 kfX6_goalBehind_23 rfl (by decide) shC_53 rfl rfl dX6_goalBehind_75 ?_
      refine lv_iload_n S.1 S.2.1 dX6_goalBehind_78 rfl (lv_at hl 1 rfl) ?_
      refine lv_aload_n S.1 S.2.1 dX6_goalBehind_79 rfl (lv_at hl 0 rfl) ?_
      refine g_get (k := 53) (ci := 5) (f := 1) (v := .ref (ad 58))  S C kiX6_goalBehind_X6 kfX6_goalBehind_20 rfl (by decide) shC_53 rfl rfl dX6_goalBehind_80 ?_
      refine g_get (k := 58) (ci := 2) (f := 4) (v := .int (r3.1 58 4))  S C kiX6_goalBehind_X2 kfX6_goalBehind_48 rfl (by decide) isL_58.1 rfl rfl dX6_goalBehind_83 ?_
      refine lv_isub S.1 S.2.1 dX6_goalBehind_86 ?_
      refine lv_iload_n S.1 S.2.1 dX6_goalBehind_87 rfl (lv_at hl 2 rfl) ?_
      refine lv_iconst (v := (0 : Int32)) S.1 S.2.1 dX6_goalBehind_88 (by decide) ?_
      obtain ⟨r4, hcr4, hm⟩ := bd_ok hm
      refine gC_v C (gRV (k := 53) (ci := 5) (r := (RX6, TX6, 5)) (As := [.ref (ad 62), .int (x1 - (r3.1 58 4)), .int x2, .int (0 : Int32)]) (rest := []) 4 S C (c_X6_noteHolders l D cy ad r3 62 isL_62 (x1 - (r3.1 58 4)) x2 (0 : Int32) r4 hcr4) gX6_goalBehind_X6_noteHolders rfl (by decide +kernel) (by decide) shC_53 rfl rfl rfl hl.1 rfl (Nat.le_of_ble_eq_true rfl) dX6_goalBehind_89) (fun H locs C => ?_)
      refine lv_bipush (v := (32 : Int32)) S.1 S.2.1 dX6_goalBehind_92 (by decide) ?_
      refine lv_istore_n (lv' := [(3, .int (32 : Int32)), (0, .ref (ad 53)), (1, .int x1), (2, .int x2)]) S.1 S.2.1 dX6_goalBehind_94 rfl hl (by decide) rfl (fun ls hl => ?_)
      exact wX6_goalBehind_95 S hr hlk FU r4 _ _ C (32 : Int32) ls (lv_sub hl [1, 0] rfl) hm
    · rw [if_neg c1] at hm
      refine lv_aload_n S.1 S.2.1 dX6_goalBehind_22 rfl (lv_at hl 0 rfl) ?_
      refine g_get (k := 53) (ci := 5) (f := 3) (v := .ref (ad 66))  S C kiX6_goalBehind_X6 kfX6_goalBehind_26 rfl (by decide) shC_53 rfl rfl dX6_goalBehind_23 ?_
      refine lv_iload_n S.1 S.2.1 dX6_goalBehind_26 rfl (lv_at hl 3 rfl) ?_
      refine lv_iconst (v := (-1 : Int32)) S.1 S.2.1 dX6_goalBehind_27 (by decide) ?_
      obtain ⟨h5, hm⟩ := ck_ok hm
      obtain ⟨M6, eM6, hm⟩ := nmd_ok hm
      refine g_iast S C (k := 66) shC_66 h5 dX6_goalBehind_28 (fun H locs C => ?_)
      rw [← eM6] at C
      obtain ⟨y7, ey7, hm⟩ := nmd_ok hm
      refine lv_iinc (v := y7) (lv' := [(3, .int y7), (0, .ref (ad 53)), (1, .int x1), (2, .int x2)]) S.1 S.2.1 dX6_goalBehind_29 hl (k := 3) rfl (by rw [ey7]; rfl) (by decide) rfl (fun ls hl => ?_)
      refine lv_goto (tgt := 16) S.1 S.2.1 dX6_goalBehind_32 (by decide) ?_
      exact ih M6 _ _ C x1 x2 y7 ls (lv_sub hl [1, 2, 3, 0] rfl) hm
set_option maxHeartbeats 4000000 in
set_option maxRecDepth 100000 in
theorem c_X6_goalBehind (l : Launch) (D : va_G) (cy : gCy) (ad : Nat → Nat) (M : gMem) (x1 : Int32) (x2 : Int32) (r0 : (Int32 × gMem)) (hm : mX6_goalBehind M x1 x2 = some r0) : Met l yX6_goalBehind wsX6_goalBehind (gR 4 90) (va_Pc [.ref (ad 53), .int x1, .int x2] (gP shC D cy ad M)) (gQi shC D cy ad r0.1 r0.2) 0 0 (gA shC ad) := by
  refine gEnter (cc := cX6_goalBehind) (maxL := 4) (ret := (some .int)) (by decide) rfl (Nat.le_of_ble_eq_true rfl) ?_
  intro p e s m below meth c ls S hr hlk C hl
  have S : CallFix p m c cX6_goalBehind 4 s _ wsX6_goalBehind RX6 := S
  have hl : lv_has ls 4 [(0, .ref (ad 53)), (1, .int x1), (2, .int x2)] := hl
  rw [mX6_goalBehind] at hm
  refine lv_iload_n S.1 S.2.1 dX6_goalBehind_0 rfl (lv_at hl 1 rfl) ?_
  refine lv_if_lt (tgt := 12) S.1 S.2.1 dX6_goalBehind_1 (by decide) (fun c1 => ?_) (fun c1 => ?_)
  · rw [if_pos c1] at hm
    refine lv_iconst (v := (-1 : Int32)) S.1 S.2.1 dX6_goalBehind_12 (by decide) ?_
    exact gReti S hr hlk C (pr1 hm) (pr2 hm) dX6_goalBehind_13
  · rw [if_neg c1] at hm
    refine lv_iload_n S.1 S.2.1 dX6_goalBehind_4 rfl (lv_at hl 1 rfl) ?_
    refine lv_aload_n S.1 S.2.1 dX6_goalBehind_5 rfl (lv_at hl 0 rfl) ?_
    refine g_get (k := 53) (ci := 5) (f := 4) (v := .int (M.1 53 4))  S C kiX6_goalBehind_X6 kfX6_goalBehind_30 rfl (by decide) shC_53 rfl rfl dX6_goalBehind_6 ?_
    refine lv_icmp_le (tgt := 14) S.1 S.2.1 dX6_goalBehind_9 (by decide) (fun c2 => ?_) (fun c2 => ?_)
    · rw [if_pos c2] at hm
      refine lv_iconst (v := (0 : Int32)) S.1 S.2.1 dX6_goalBehind_14 (by decide) ?_
      refine lv_istore_n (lv' := [(3, .int (0 : Int32)), (0, .ref (ad 53)), (1, .int x1), (2, .int x2)]) S.1 S.2.1 dX6_goalBehind_15 rfl hl (by decide) rfl (fun ls hl => ?_)
      exact wX6_goalBehind_16 S hr hlk FU M _ _ C x1 x2 (0 : Int32) ls (lv_sub hl [1, 2, 3, 0] rfl) hm
    · rw [if_neg c2] at hm
      refine lv_iconst (v := (-1 : Int32)) S.1 S.2.1 dX6_goalBehind_12 (by decide) ?_
      exact gReti S hr hlk C (pr1 hm) (pr2 hm) dX6_goalBehind_13
