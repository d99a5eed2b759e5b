theorem kiX8_done_X8 : ∀ w ∈ wsX80, w ∈ wsX8_done := by decide +kernel
theorem kfX8_done_68 : Cond.fieldLink RX8 68 "PrefixLeaderModel" "stepAddress" "[J" ∈ wsX8_done := by decide +kernel
theorem kfX8_done_71 : Cond.fieldLink RX8 71 "PrefixLeaderModel" "stepBits" "[I" ∈ wsX8_done := by decide +kernel
theorem kfX8_done_65 : Cond.fieldLink RX8 65 "PrefixLeaderModel" "stepKind" "[I" ∈ wsX8_done := by decide +kernel
theorem kfX8_done_74 : Cond.fieldLink RX8 74 "PrefixLeaderModel" "stepGoal" "[I" ∈ wsX8_done := by decide +kernel
theorem kiX8_led_X8 : ∀ w ∈ wsX80, w ∈ wsX8_led := by decide +kernel
theorem kfX8_led_202 : Cond.fieldLink RX8 202 "PrefixLeaderModel" "hasWay" "Z" ∈ wsX8_led := by decide +kernel
theorem kfX8_led_199 : Cond.fieldLink RX8 199 "PrefixLeaderModel" "stepMany" "I" ∈ wsX8_led := by decide +kernel
theorem kfX8_led_209 : Cond.fieldLink RX8 209 "PrefixLeaderModel" "wayMany" "I" ∈ wsX8_led := by decide +kernel
theorem kfX8_led_77 : Cond.fieldLink RX8 77 "PrefixLeaderModel" "wayAddress" "[J" ∈ wsX8_led := by decide +kernel
theorem kfX8_led_80 : Cond.fieldLink RX8 80 "PrefixLeaderModel" "wayBits" "[I" ∈ wsX8_led := by decide +kernel
theorem kfX8_led_83 : Cond.fieldLink RX8 83 "PrefixLeaderModel" "wayGoal" "[I" ∈ wsX8_led := by decide +kernel
theorem kfX8_led_65 : Cond.fieldLink RX8 65 "PrefixLeaderModel" "stepKind" "[I" ∈ wsX8_led := by decide +kernel
theorem kfX8_led_68 : Cond.fieldLink RX8 68 "PrefixLeaderModel" "stepAddress" "[J" ∈ wsX8_led := by decide +kernel
theorem kfX8_led_71 : Cond.fieldLink RX8 71 "PrefixLeaderModel" "stepBits" "[I" ∈ wsX8_led := by decide +kernel
theorem kfX8_led_74 : Cond.fieldLink RX8 74 "PrefixLeaderModel" "stepGoal" "[I" ∈ wsX8_led := by decide +kernel
theorem kiX8_counts_X8 : ∀ w ∈ wsX80, w ∈ wsX8_counts := by decide +kernel
theorem kfX8_counts_215 : Cond.fieldLink RX8 215 "PrefixLeaderModel" "seenMany" "I" ∈ wsX8_counts := by decide +kernel
theorem kfX8_counts_86 : Cond.fieldLink RX8 86 "PrefixLeaderModel" "seen" "[J" ∈ wsX8_counts := by decide +kernel
theorem kfX8_counts_89 : Cond.fieldLink RX8 89 "PrefixLeaderModel" "seenBits" "[I" ∈ wsX8_counts := by decide +kernel
theorem kiX8_pressed_X8 : ∀ w ∈ wsX80, w ∈ wsX8_pressed := by decide +kernel
theorem kfX8_pressed_7 : Cond.fieldLink RX8 7 "PrefixLeaderModel" "many" "[I" ∈ wsX8_pressed := by decide +kernel
theorem kfX8_pressed_13 : Cond.fieldLink RX8 13 "PrefixLeaderModel" "address" "[J" ∈ wsX8_pressed := by decide +kernel
theorem kfX8_pressed_17 : Cond.fieldLink RX8 17 "PrefixLeaderModel" "bits" "[I" ∈ wsX8_pressed := by decide +kernel
theorem kiX8_strides_X8 : ∀ w ∈ wsX80, w ∈ wsX8_strides := by decide +kernel
theorem kfX8_strides_7 : Cond.fieldLink RX8 7 "PrefixLeaderModel" "many" "[I" ∈ wsX8_strides := by decide +kernel
theorem kfX8_strides_17 : Cond.fieldLink RX8 17 "PrefixLeaderModel" "bits" "[I" ∈ wsX8_strides := by decide +kernel
theorem kfX8_strides_13 : Cond.fieldLink RX8 13 "PrefixLeaderModel" "address" "[J" ∈ wsX8_strides := by decide +kernel
theorem kiX8_steps_X8 : ∀ w ∈ wsX80, w ∈ wsX8_steps := by decide +kernel
theorem kfX8_steps_215 : Cond.fieldLink RX8 215 "PrefixLeaderModel" "seenMany" "I" ∈ wsX8_steps := by decide +kernel
theorem kfX8_steps_86 : Cond.fieldLink RX8 86 "PrefixLeaderModel" "seen" "[J" ∈ wsX8_steps := by decide +kernel
theorem kfX8_steps_89 : Cond.fieldLink RX8 89 "PrefixLeaderModel" "seenBits" "[I" ∈ wsX8_steps := by decide +kernel
theorem kcX8_nodes_124 : Cond.constantLong RX8 124 (-1 : Int64) ∈ wsX8_nodes := by decide +kernel
theorem kiX8_nodes_X8 : ∀ w ∈ wsX80, w ∈ wsX8_nodes := by decide +kernel
theorem kfX8_nodes_215 : Cond.fieldLink RX8 215 "PrefixLeaderModel" "seenMany" "I" ∈ wsX8_nodes := by decide +kernel
theorem kfX8_nodes_89 : Cond.fieldLink RX8 89 "PrefixLeaderModel" "seenBits" "[I" ∈ wsX8_nodes := by decide +kernel
theorem kfX8_nodes_86 : Cond.fieldLink RX8 86 "PrefixLeaderModel" "seen" "[J" ∈ wsX8_nodes := by decide +kernel
def mX8_done_7 : Nat → gMem → Int32 → Int64 → Int32 → Int32 → Int32 → Option Int32
  | 0, _, _, _, _, _, _ => none
  | n + 1, M, x1, x2, x4, x5, x6 => if x1 ≤ x6 then (some x5) else (ck (inb x6 128) <| if (M.2 20 x6.toNatClampNeg) = x2 then (ck (inb x6 128) <| if (M.1 21 x6.toNatClampNeg) = x4 then (ck (inb x6 128) <| if (M.1 19 x6.toNatClampNeg) = (1 : Int32) then (ck (inb x6 128) <| nmd (M.1 22 x6.toNatClampNeg) fun y12 => nmd (x6 + (1 : Int32)) fun y13 => mX8_done_7 n M x1 x2 x4 y12 y13) else (nmd (x6 + (1 : Int32)) fun y10 => mX8_done_7 n M x1 x2 x4 (-1 : Int32) y10)) else (nmd (x6 + (1 : Int32)) fun y7 => mX8_done_7 n M x1 x2 x4 x5 y7)) else (nmd (x6 + (1 : Int32)) fun y4 => mX8_done_7 n M x1 x2 x4 x5 y4))
def mX8_done (M : gMem) (x1 : Int32) (x2 : Int64) (x4 : Int32) : Option Int32 := mX8_done_7 FU M x1 x2 x4 (-2 : Int32) (0 : Int32)
set_option maxHeartbeats 4000000 in
set_option maxRecDepth 100000 in
theorem wX8_done_7 {p : Program} {l : Launch} {e : Env} {s : State} {m : MethodId} {args : Array Value} {below : List Frame} {meth : Method} {c : Code} {D : va_G} {cy : gCy} {ad : Nat → Nat} {M : gMem} {r0 : Int32} (S : CallFix p m c cX8_done 7 s args wsX8_done RX8) (hr : meth.sig.returnType = (some .int)) (hlk : meth.locks = false) : ∀ (n : Nat), ∀ (H : Heap) (locs : List Loc), gW shR D cy ad s s.heap M H locs → ∀ (x1 : Int32) (x2 : Int64) (x4 : Int32) (x5 : Int32) (x6 : Int32), ∀ (ls : Array Slot), lv_has ls 7 [(0, .ref (ad 0)), (1, .int x1), (2, .long x2), (4, .int x4), (5, .int x5), (6, .int x6)] → mX8_done_7 n M x1 x2 x4 x5 x6 = some r0 → W p l e (gR 0 0) s m args below meth c H locs 0 0 (MQ below (gQi shR D cy ad r0 M) args s 0 0 (gA shR ad)) (F0 m 7 ls []) := by
  intro n
  induction n with
  | zero => intro H locs C x1 x2 x4 x5 x6 ls hl hm; exact absurd hm (by simp [mX8_done_7])
  | succ n ih =>
    intro H locs C x1 x2 x4 x5 x6 ls hl hm
    rw [mX8_done_7] at hm
    refine lv_iload S.1 S.2.1 dX8_done_7 (lv_at hl 5 rfl) ?_
    refine lv_iload_n S.1 S.2.1 dX8_done_9 rfl (lv_at hl 1 rfl) ?_
    refine lv_icmp_ge (tgt := 67) S.1 S.2.1 dX8_done_10 (by decide) (fun c1 => ?_) (fun c1 => ?_)
    · rw [if_pos c1] at hm
      refine lv_iload S.1 S.2.1 dX8_done_67 (lv_at hl 4 rfl) ?_
      exact gReti S hr hlk C (Option.some.inj hm) rfl dX8_done_69
    · rw [if_neg c1] at hm
      refine lv_aload_n S.1 S.2.1 dX8_done_13 rfl (lv_at hl 0 rfl) ?_
      refine g_get (k := 0) (ci := 7) (f := 24) (v := .ref (ad 20))  S C kiX8_done_X8 kfX8_done_68 rfl (by decide) shR_0 rfl rfl dX8_done_14 ?_
      refine lv_iload S.1 S.2.1 dX8_done_17 (lv_at hl 5 rfl) ?_
      obtain ⟨h2, hm⟩ := ck_ok hm
      refine g_lald S C (k := 20) shR_20 h2 dX8_done_19 ?_
      refine lv_lload_n S.1 S.2.1 dX8_done_20 rfl (lv_at hl 2 rfl) ?_
      refine W.lcmp S.1 S.2.1 dX8_done_21 ?_
      refine lv_if_ne (tgt := 61) S.1 S.2.1 dX8_done_22 (by decide) (fun c3 => ?_) (fun c3 => ?_)
      · rw [if_neg (fun q => c3 (cmp_eq.mpr q))] at hm
        obtain ⟨y4, ey4, hm⟩ := nmd_ok hm
        refine lv_iinc (v := y4) (lv' := [(6, .int y4), (0, .ref (ad 0)), (1, .int x1), (2, .long x2), (4, .int x4), (5, .int x5)]) S.1 S.2.1 dX8_done_61 hl (k := 5) rfl (by rw [ey4]; rfl) (by decide) rfl (fun ls hl => ?_)
        refine lv_goto (tgt := 7) S.1 S.2.1 dX8_done_64 (by decide) ?_
        exact ih _ _ C x1 x2 x4 x5 y4 ls (lv_sub hl [1, 2, 3, 4, 5, 0] rfl) hm
      · rw [if_pos (cmp_eq.mp c3)] at hm
        refine lv_aload_n S.1 S.2.1 dX8_done_25 rfl (lv_at hl 0 rfl) ?_
        refine g_get (k := 0) (ci := 7) (f := 25) (v := .ref (ad 21))  S C kiX8_done_X8 kfX8_done_71 rfl (by decide) shR_0 rfl rfl dX8_done_26 ?_
        refine lv_iload S.1 S.2.1 dX8_done_29 (lv_at hl 5 rfl) ?_
        obtain ⟨h5, hm⟩ := ck_ok hm
        refine g_iald S C (k := 21) shR_21 h5 dX8_done_31 ?_
        refine lv_iload S.1 S.2.1 dX8_done_32 (lv_at hl 3 rfl) ?_
        refine lv_icmp_ne (tgt := 61) S.1 S.2.1 dX8_done_34 (by decide) (fun c6 => ?_) (fun c6 => ?_)
        · rw [if_neg c6] at hm
          obtain ⟨y7, ey7, hm⟩ := nmd_ok hm
          refine lv_iinc (v := y7) (lv' := [(6, .int y7), (0, .ref (ad 0)), (1, .int x1), (2, .long x2), (4, .int x4), (5, .int x5)]) S.1 S.2.1 dX8_done_61 hl (k := 5) rfl (by rw [ey7]; rfl) (by decide) rfl (fun ls hl => ?_)
          refine lv_goto (tgt := 7) S.1 S.2.1 dX8_done_64 (by decide) ?_
          exact ih _ _ C x1 x2 x4 x5 y7 ls (lv_sub hl [1, 2, 3, 4, 5, 0] rfl) hm
        · rw [if_pos c6] at hm
          refine lv_aload_n S.1 S.2.1 dX8_done_37 rfl (lv_at hl 0 rfl) ?_
          refine g_get (k := 0) (ci := 7) (f := 23) (v := .ref (ad 19))  S C kiX8_done_X8 kfX8_done_65 rfl (by decide) shR_0 rfl rfl dX8_done_38 ?_
          refine lv_iload S.1 S.2.1 dX8_done_41 (lv_at hl 5 rfl) ?_
          obtain ⟨h8, hm⟩ := ck_ok hm
          refine g_iald S C (k := 19) shR_19 h8 dX8_done_43 ?_
          refine lv_iconst (v := (1 : Int32)) S.1 S.2.1 dX8_done_44 (by decide) ?_
          refine lv_icmp_ne (tgt := 58) S.1 S.2.1 dX8_done_45 (by decide) (fun c9 => ?_) (fun c9 => ?_)
          · rw [if_neg c9] at hm
            refine lv_iconst (v := (-1 : Int32)) S.1 S.2.1 dX8_done_58 (by decide) ?_
            refine lv_istore (lv' := [(5, .int (-1 : Int32)), (0, .ref (ad 0)), (1, .int x1), (2, .long x2), (4, .int x4), (6, .int x6)]) S.1 S.2.1 dX8_done_59 hl (by decide) rfl (fun ls hl => ?_)
            obtain ⟨y10, ey10, hm⟩ := nmd_ok hm
            refine lv_iinc (v := y10) (lv' := [(6, .int y10), (5, .int (-1 : Int32)), (0, .ref (ad 0)), (1, .int x1), (2, .long x2), (4, .int x4)]) S.1 S.2.1 dX8_done_61 hl (k := 5) rfl (by rw [ey10]; rfl) (by decide) rfl (fun ls hl => ?_)
            refine lv_goto (tgt := 7) S.1 S.2.1 dX8_done_64 (by decide) ?_
            exact ih _ _ C x1 x2 x4 (-1 : Int32) y10 ls (lv_sub hl [2, 3, 4, 5, 1, 0] rfl) hm
          · rw [if_pos c9] at hm
            refine lv_aload_n S.1 S.2.1 dX8_done_48 rfl (lv_at hl 0 rfl) ?_
            refine g_get (k := 0) (ci := 7) (f := 26) (v := .ref (ad 22))  S C kiX8_done_X8 kfX8_done_74 rfl (by decide) shR_0 rfl rfl dX8_done_49 ?_
            refine lv_iload S.1 S.2.1 dX8_done_52 (lv_at hl 5 rfl) ?_
            obtain ⟨h11, hm⟩ := ck_ok hm
            refine g_iald S C (k := 22) shR_22 h11 dX8_done_54 ?_
            refine lv_goto (tgt := 59) S.1 S.2.1 dX8_done_55 (by decide) ?_
            obtain ⟨y12, ey12, hm⟩ := nmd_ok hm
            refine gNmI ey12 ?_
            refine lv_istore (lv' := [(5, .int y12), (0, .ref (ad 0)), (1, .int x1), (2, .long x2), (4, .int x4), (6, .int x6)]) S.1 S.2.1 dX8_done_59 hl (by decide) rfl (fun ls hl => ?_)
            obtain ⟨y13, ey13, hm⟩ := nmd_ok hm
            refine lv_iinc (v := y13) (lv' := [(6, .int y13), (5, .int y12), (0, .ref (ad 0)), (1, .int x1), (2, .long x2), (4, .int x4)]) S.1 S.2.1 dX8_done_61 hl (k := 5) rfl (by rw [ey13]; rfl) (by decide) rfl (fun ls hl => ?_)
            refine lv_goto (tgt := 7) S.1 S.2.1 dX8_done_64 (by decide) ?_
            exact ih _ _ C x1 x2 x4 y12 y13 ls (lv_sub hl [2, 3, 4, 5, 1, 0] rfl) hm
set_option maxHeartbeats 4000000 in
set_option maxRecDepth 100000 in
theorem c_X8_done (l : Launch) (D : va_G) (cy : gCy) (ad : Nat → Nat) (M : gMem) (x1 : Int32) (x2 : Int64) (x4 : Int32) (r0 : Int32) (hm : mX8_done M x1 x2 x4 = some r0) : Met l yX8_done wsX8_done (gR 0 0) (va_Pc [.ref (ad 0), .int x1, .long x2, .int x4] (gP shR D cy ad M)) (gQi shR D cy ad r0 M) 0 0 (gA shR ad) := by
  refine gEnter (cc := cX8_done) (maxL := 7) (ret := (some .int)) (by decide) rfl (Nat.le_of_ble_eq_true rfl) ?_
  intro p e s m below meth c ls S hr hlk C hl
  have S : CallFix p m c cX8_done 7 s _ wsX8_done RX8 := S
  have hl : lv_has ls 7 [(0, .ref (ad 0)), (1, .int x1), (2, .long x2), (4, .int x4)] := hl
  rw [mX8_done] at hm
  refine lv_bipush (v := (-2 : Int32)) S.1 S.2.1 dX8_done_0 (by decide) ?_
  refine lv_istore (lv' := [(5, .int (-2 : Int32)), (0, .ref (ad 0)), (1, .int x1), (2, .long x2), (4, .int x4)]) S.1 S.2.1 dX8_done_2 hl (by decide) rfl (fun ls hl => ?_)
  refine lv_iconst (v := (0 : Int32)) S.1 S.2.1 dX8_done_4 (by decide) ?_
  refine lv_istore (lv' := [(6, .int (0 : Int32)), (5, .int (-2 : Int32)), (0, .ref (ad 0)), (1, .int x1), (2, .long x2), (4, .int x4)]) S.1 S.2.1 dX8_done_5 hl (by decide) rfl (fun ls hl => ?_)
  exact wX8_done_7 S hr hlk FU _ _ C x1 x2 x4 (-2 : Int32) (0 : Int32) ls (lv_sub hl [2, 3, 4, 5, 1, 0] rfl) hm
def mX8_led_147 : Nat → gMem → Int32 → Int64 → Int32 → Int32 → Int32 → Option Int32
  | 0, _, _, _, _, _, _ => none
  | n + 1, M, x1, x3, x5, x6, x7 => if x1 ≤ x7 then (some x6) else (ck (inb x7 128) <| if (M.1 19 x7.toNatClampNeg) = 0 then (nmd (x7 + (1 : Int32)) fun y4 => mX8_led_147 n M x1 x3 x5 x6 y4) else (ck (inb x7 128) <| ck (inb x7 128) <| (mX8_begins x3 (M.2 20 x7.toNatClampNeg) (M.1 21 x7.toNatClampNeg)).bind fun r7 => if r7 = 0 then (nmd (x7 + (1 : Int32)) fun y9 => mX8_led_147 n M x1 x3 x5 x6 y9) else (ck (inb x7 128) <| if x5 < (M.1 21 x7.toNatClampNeg) then (ck (inb x7 128) <| nmd (M.1 21 x7.toNatClampNeg) fun y13 => ck (inb x7 128) <| nmd (M.1 22 x7.toNatClampNeg) fun y15 => nmd (x7 + (1 : Int32)) fun y16 => mX8_led_147 n M x1 x3 y13 y15 y16) else (nmd (x7 + (1 : Int32)) fun y17 => mX8_led_147 n M x1 x3 x5 x6 y17))))
def mX8_led_36 : Nat → gMem → Int32 → Int64 → Int32 → Int32 → Int32 → Option Int32
  | 0, _, _, _, _, _, _ => none
  | n + 1, M, x1, x3, x5, x6, x7 => if (M.1 0 27) ≤ x7 then (mX8_led_147 FU M x1 x3 x5 x6 (0 : Int32)) else (ck (inb x7 64) <| ck (inb x7 64) <| (mX8_done M x1 (M.2 23 x7.toNatClampNeg) (M.1 24 x7.toNatClampNeg)).bind fun r4 => if r4 = (-1 : Int32) then (nmd (x7 + (1 : Int32)) fun y6 => mX8_led_36 n M x1 x3 x5 x6 y6) else (ck (inb x7 64) <| ck (inb x7 64) <| (mX8_begins x3 (M.2 23 x7.toNatClampNeg) (M.1 24 x7.toNatClampNeg)).bind fun r9 => if r9 = 0 then (nmd (x7 + (1 : Int32)) fun y11 => mX8_led_36 n M x1 x3 x5 x6 y11) else (ck (inb x7 64) <| if x5 < (M.1 24 x7.toNatClampNeg) then (ck (inb x7 64) <| nmd (M.1 24 x7.toNatClampNeg) fun y15 => if r4 = (-2 : Int32) then (ck (inb x7 64) <| nmd (M.1 25 x7.toNatClampNeg) fun y19 => nmd (x7 + (1 : Int32)) fun y20 => mX8_led_36 n M x1 x3 y15 y19 y20) else (nmd (x7 + (1 : Int32)) fun y17 => mX8_led_36 n M x1 x3 y15 r4 y17)) else (nmd (x7 + (1 : Int32)) fun y21 => mX8_led_36 n M x1 x3 x5 x6 y21))))
def mX8_led (M : gMem) (x1 : Int32) (x2 : Int32) : Option Int32 := if (M.1 0 21) = 0 then (some (-1 : Int32)) else ((mX8_lies x1 (0 : Int32) (M.1 0 22)).bind fun r2 => if r2 = 0 then (some (-1 : Int32)) else ((mX8_number x2).bind fun r4 => mX8_led_36 FU M x1 r4 (-1 : Int32) (16 : Int32) (0 : Int32)))
set_option maxHeartbeats 4000000 in
set_option maxRecDepth 100000 in
theorem wX8_led_147 {p : Program} {l : Launch} {e : Env} {s : State} {m : MethodId} {args : Array Value} {below : List Frame} {meth : Method} {c : Code} {D : va_G} {cy : gCy} {ad : Nat → Nat} {M : gMem} {r0 : Int32} (S : CallFix p m c cX8_led 9 s args wsX8_led RX8) (hr : meth.sig.returnType = (some .int)) (hlk : meth.locks = false) : ∀ (n : Nat), ∀ (H : Heap) (locs : List Loc), gW shR D cy ad s s.heap M H locs → ∀ (x1 : Int32) (x3 : Int64) (x5 : Int32) (x6 : Int32) (x7 : Int32), ∀ (ls : Array Slot), lv_has ls 9 [(0, .ref (ad 0)), (1, .int x1), (3, .long x3), (5, .int x5), (6, .int x6), (7, .int x7)] → mX8_led_147 n M x1 x3 x5 x6 x7 = some r0 → W p l e (gR 2 44) s m args below meth c H locs 0 0 (MQ below (gQi shR D cy ad r0 M) args s 0 0 (gA shR ad)) (F0 m 147 ls []) := by
  intro n
  induction n with
  | zero => intro H locs C x1 x3 x5 x6 x7 ls hl hm; exact absurd hm (by simp [mX8_led_147])
  | succ n ih =>
    intro H locs C x1 x3 x5 x6 x7 ls hl hm
    rw [mX8_led_147] at hm
    refine lv_iload S.1 S.2.1 dX8_led_147 (lv_at hl 5 rfl) ?_
    refine lv_iload_n S.1 S.2.1 dX8_led_149 rfl (lv_at hl 1 rfl) ?_
    refine lv_icmp_ge (tgt := 223) S.1 S.2.1 dX8_led_150 (by decide) (fun c1 => ?_) (fun c1 => ?_)
    · rw [if_pos c1] at hm
      refine lv_iload S.1 S.2.1 dX8_led_223 (lv_at hl 4 rfl) ?_
      exact gReti S hr hlk C (Option.some.inj hm) rfl dX8_led_225
    · rw [if_neg c1] at hm
      refine lv_aload_n S.1 S.2.1 dX8_led_153 rfl (lv_at hl 0 rfl) ?_
      refine g_get (k := 0) (ci := 7) (f := 23) (v := .ref (ad 19))  S C kiX8_led_X8 kfX8_led_65 rfl (by decide) shR_0 rfl rfl dX8_led_154 ?_
      refine lv_iload S.1 S.2.1 dX8_led_157 (lv_at hl 5 rfl) ?_
      obtain ⟨h2, hm⟩ := ck_ok hm
      refine g_iald S C (k := 19) shR_19 h2 dX8_led_159 ?_
      refine lv_if_eq (tgt := 217) S.1 S.2.1 dX8_led_160 (by decide) (fun c3 => ?_) (fun c3 => ?_)
      · rw [if_pos c3] at hm
        obtain ⟨y4, ey4, hm⟩ := nmd_ok hm
        refine lv_iinc (v := y4) (lv' := [(7, .int y4), (0, .ref (ad 0)), (1, .int x1), (3, .long x3), (5, .int x5), (6, .int x6)]) S.1 S.2.1 dX8_led_217 hl (k := 5) rfl (by rw [ey4]; rfl) (by decide) rfl (fun ls hl => ?_)
        refine lv_goto (tgt := 147) S.1 S.2.1 dX8_led_220 (by decide) ?_
        exact ih _ _ C x1 x3 x5 x6 y4 ls (lv_sub hl [1, 2, 3, 4, 5, 0] rfl) hm
      · rw [if_neg c3] at hm
        refine lv_lload_n S.1 S.2.1 dX8_led_163 rfl (lv_at hl 2 rfl) ?_
        refine lv_aload_n S.1 S.2.1 dX8_led_164 rfl (lv_at hl 0 rfl) ?_
        refine g_get (k := 0) (ci := 7) (f := 24) (v := .ref (ad 20))  S C kiX8_led_X8 kfX8_led_68 rfl (by decide) shR_0 rfl rfl dX8_led_165 ?_
        refine lv_iload S.1 S.2.1 dX8_led_168 (lv_at hl 5 rfl) ?_
        obtain ⟨h5, hm⟩ := ck_ok hm
        refine g_lald S C (k := 20) shR_20 h5 dX8_led_170 ?_
        refine lv_aload_n S.1 S.2.1 dX8_led_171 rfl (lv_at hl 0 rfl) ?_
        refine g_get (k := 0) (ci := 7) (f := 25) (v := .ref (ad 21))  S C kiX8_led_X8 kfX8_led_71 rfl (by decide) shR_0 rfl rfl dX8_led_172 ?_
        refine lv_iload S.1 S.2.1 dX8_led_175 (lv_at hl 5 rfl) ?_
        obtain ⟨h6, hm⟩ := ck_ok hm
        refine g_iald S C (k := 21) shR_21 h6 dX8_led_177 ?_
        obtain ⟨r7, hcr7, hm⟩ := bd_ok hm
        refine gC_i C (gRS (As := [.long x3, .long (M.2 20 x7.toNatClampNeg), .int (M.1 21 x7.toNatClampNeg)]) (rest := []) 3 S C (c_X8_begins l D cy ad M x3 (M.2 20 x7.toNatClampNeg) (M.1 21 x7.toNatClampNeg) r7 hcr7) gX8_led_X8_begins rfl (by decide +kernel) (by decide) rfl hl.1 rfl (Nat.le_of_ble_eq_true rfl) dX8_led_178) (fun H locs C => ?_)
        refine lv_if_eq (tgt := 217) S.1 S.2.1 dX8_led_181 (by decide) (fun c8 => ?_) (fun c8 => ?_)
        · rw [if_pos c8] at hm
          obtain ⟨y9, ey9, hm⟩ := nmd_ok hm
          refine lv_iinc (v := y9) (lv' := [(7, .int y9), (0, .ref (ad 0)), (1, .int x1), (3, .long x3), (5, .int x5), (6, .int x6)]) S.1 S.2.1 dX8_led_217 hl (k := 5) rfl (by rw [ey9]; rfl) (by decide) rfl (fun ls hl => ?_)
          refine lv_goto (tgt := 147) S.1 S.2.1 dX8_led_220 (by decide) ?_
          exact ih _ _ C x1 x3 x5 x6 y9 ls (lv_sub hl [1, 2, 3, 4, 5, 0] rfl) hm
        · rw [if_neg c8] at hm
          refine lv_aload_n S.1 S.2.1 dX8_led_184 rfl (lv_at hl 0 rfl) ?_
          refine g_get (k := 0) (ci := 7) (f := 25) (v := .ref (ad 21))  S C kiX8_led_X8 kfX8_led_71 rfl (by decide) shR_0 rfl rfl dX8_led_185 ?_
          refine lv_iload S.1 S.2.1 dX8_led_188 (lv_at hl 5 rfl) ?_
          obtain ⟨h10, hm⟩ := ck_ok hm
          refine g_iald S C (k := 21) shR_21 h10 dX8_led_190 ?_
          refine lv_iload S.1 S.2.1 dX8_led_191 (lv_at hl 3 rfl) ?_
          refine lv_icmp_gt (tgt := 199) S.1 S.2.1 dX8_led_193 (by decide) (fun c11 => ?_) (fun c11 => ?_)
          · rw [if_pos c11] at hm
            refine lv_aload_n S.1 S.2.1 dX8_led_199 rfl (lv_at hl 0 rfl) ?_
            refine g_get (k := 0) (ci := 7) (f := 25) (v := .ref (ad 21))  S C kiX8_led_X8 kfX8_led_71 rfl (by decide) shR_0 rfl rfl dX8_led_200 ?_
            refine lv_iload S.1 S.2.1 dX8_led_203 (lv_at hl 5 rfl) ?_
            obtain ⟨h12, hm⟩ := ck_ok hm
            refine g_iald S C (k := 21) shR_21 h12 dX8_led_205 ?_
            obtain ⟨y13, ey13, hm⟩ := nmd_ok hm
            refine gNmI ey13 ?_
            refine lv_istore (lv' := [(5, .int y13), (0, .ref (ad 0)), (1, .int x1), (3, .long x3), (6, .int x6), (7, .int x7)]) S.1 S.2.1 dX8_led_206 hl (by decide) rfl (fun ls hl => ?_)
            refine lv_aload_n S.1 S.2.1 dX8_led_208 rfl (lv_at hl 1 rfl) ?_
            refine g_get (k := 0) (ci := 7) (f := 26) (v := .ref (ad 22))  S C kiX8_led_X8 kfX8_led_74 rfl (by decide) shR_0 rfl rfl dX8_led_209 ?_
            refine lv_iload S.1 S.2.1 dX8_led_212 (lv_at hl 5 rfl) ?_
            obtain ⟨h14, hm⟩ := ck_ok hm
            refine g_iald S C (k := 22) shR_22 h14 dX8_led_214 ?_
            obtain ⟨y15, ey15, hm⟩ := nmd_ok hm
            refine gNmI ey15 ?_
            refine lv_istore (lv' := [(6, .int y15), (5, .int y13), (0, .ref (ad 0)), (1, .int x1), (3, .long x3), (7, .int x7)]) S.1 S.2.1 dX8_led_215 hl (by decide) rfl (fun ls hl => ?_)
            obtain ⟨y16, ey16, hm⟩ := nmd_ok hm
            refine lv_iinc (v := y16) (lv' := [(7, .int y16), (6, .int y15), (5, .int y13), (0, .ref (ad 0)), (1, .int x1), (3, .long x3)]) S.1 S.2.1 dX8_led_217 hl (k := 5) rfl (by rw [ey16]; rfl) (by decide) rfl (fun ls hl => ?_)
            refine lv_goto (tgt := 147) S.1 S.2.1 dX8_led_220 (by decide) ?_
            exact ih _ _ C x1 x3 y13 y15 y16 ls (lv_sub hl [3, 4, 5, 2, 1, 0] rfl) hm
          · rw [if_neg c11] at hm
            refine lv_goto (tgt := 217) S.1 S.2.1 dX8_led_196 (by decide) ?_
            obtain ⟨y17, ey17, hm⟩ := nmd_ok hm
            refine lv_iinc (v := y17) (lv' := [(7, .int y17), (0, .ref (ad 0)), (1, .int x1), (3, .long x3), (5, .int x5), (6, .int x6)]) S.1 S.2.1 dX8_led_217 hl (k := 5) rfl (by rw [ey17]; rfl) (by decide) rfl (fun ls hl => ?_)
            refine lv_goto (tgt := 147) S.1 S.2.1 dX8_led_220 (by decide) ?_
            exact ih _ _ C x1 x3 x5 x6 y17 ls (lv_sub hl [1, 2, 3, 4, 5, 0] rfl) hm
set_option maxHeartbeats 4000000 in
set_option maxRecDepth 100000 in
theorem wX8_led_36 {p : Program} {l : Launch} {e : Env} {s : State} {m : MethodId} {args : Array Value} {below : List Frame} {meth : Method} {c : Code} {D : va_G} {cy : gCy} {ad : Nat → Nat} {M : gMem} {r0 : Int32} (S : CallFix p m c cX8_led 9 s args wsX8_led RX8) (hr : meth.sig.returnType = (some .int)) (hlk : meth.locks = false) : ∀ (n : Nat), ∀ (H : Heap) (locs : List Loc), gW shR D cy ad s s.heap M H locs → ∀ (x1 : Int32) (x3 : Int64) (x5 : Int32) (x6 : Int32) (x7 : Int32), ∀ (ls : Array Slot), lv_has ls 9 [(0, .ref (ad 0)), (1, .int x1), (3, .long x3), (5, .int x5), (6, .int x6), (7, .int x7)] → mX8_led_36 n M x1 x3 x5 x6 x7 = some r0 → W p l e (gR 2 44) s m args below meth c H locs 0 0 (MQ below (gQi shR D cy ad r0 M) args s 0 0 (gA shR ad)) (F0 m 36 ls []) := by
  intro n
  induction n with
  | zero => intro H locs C x1 x3 x5 x6 x7 ls hl hm; exact absurd hm (by simp [mX8_led_36])
  | succ n ih =>
    intro H locs C x1 x3 x5 x6 x7 ls hl hm
    rw [mX8_led_36] at hm
    refine lv_iload S.1 S.2.1 dX8_led_36 (lv_at hl 5 rfl) ?_
    refine lv_aload_n S.1 S.2.1 dX8_led_38 rfl (lv_at hl 0 rfl) ?_
    refine g_get (k := 0) (ci := 7) (f := 27) (v := .int (M.1 0 27))  S C kiX8_led_X8 kfX8_led_209 rfl (by decide) shR_0 rfl rfl dX8_led_39 ?_
    refine lv_icmp_ge (tgt := 144) S.1 S.2.1 dX8_led_42 (by decide) (fun c1 => ?_) (fun c1 => ?_)
    · rw [if_pos c1] at hm
      refine lv_iconst (v := (0 : Int32)) S.1 S.2.1 dX8_led_144 (by decide) ?_
      refine lv_istore (lv' := [(7, .int (0 : Int32)), (0, .ref (ad 0)), (1, .int x1), (3, .long x3), (5, .int x5), (6, .int x6)]) S.1 S.2.1 dX8_led_145 hl (by decide) rfl (fun ls hl => ?_)
      exact wX8_led_147 S hr hlk FU _ _ C x1 x3 x5 x6 (0 : Int32) ls (lv_sub hl [1, 2, 3, 4, 5, 0] rfl) hm
    · rw [if_neg c1] at hm
      refine lv_aload_n S.1 S.2.1 dX8_led_45 rfl (lv_at hl 0 rfl) ?_
      refine lv_iload_n S.1 S.2.1 dX8_led_46 rfl (lv_at hl 1 rfl) ?_
      refine lv_aload_n S.1 S.2.1 dX8_led_47 rfl (lv_at hl 0 rfl) ?_
      refine g_get (k := 0) (ci := 7) (f := 28) (v := .ref (ad 23))  S C kiX8_led_X8 kfX8_led_77 rfl (by decide) shR_0 rfl rfl dX8_led_48 ?_
      refine lv_iload S.1 S.2.1 dX8_led_51 (lv_at hl 5 rfl) ?_
      obtain ⟨h2, hm⟩ := ck_ok hm
      refine g_lald S C (k := 23) shR_23 h2 dX8_led_53 ?_
      refine lv_aload_n S.1 S.2.1 dX8_led_54 rfl (lv_at hl 0 rfl) ?_
      refine g_get (k := 0) (ci := 7) (f := 29) (v := .ref (ad 24))  S C kiX8_led_X8 kfX8_led_80 rfl (by decide) shR_0 rfl rfl dX8_led_55 ?_
      refine lv_iload S.1 S.2.1 dX8_led_58 (lv_at hl 5 rfl) ?_
      obtain ⟨h3, hm⟩ := ck_ok hm
      refine g_iald S C (k := 24) shR_24 h3 dX8_led_60 ?_
      obtain ⟨r4, hcr4, hm⟩ := bd_ok hm
      refine gC_i C (gRV (k := 0) (ci := 7) (r := (RX8, TX8, 34)) (As := [.int x1, .long (M.2 23 x7.toNatClampNeg), .int (M.1 24 x7.toNatClampNeg)]) (rest := []) 3 S C (c_X8_done l D cy ad M x1 (M.2 23 x7.toNatClampNeg) (M.1 24 x7.toNatClampNeg) r4 hcr4) gX8_led_X8_done rfl (by decide +kernel) (by decide) shR_0 rfl rfl rfl hl.1 rfl (Nat.le_of_ble_eq_true rfl) dX8_led_61) (fun H locs C => ?_)
      refine lv_istore (lv' := [(8, .int r4), (0, .ref (ad 0)), (1, .int x1), (3, .long x3), (5, .int x5), (6, .int x6), (7, .int x7)]) S.1 S.2.1 dX8_led_64 hl (by decide) rfl (fun ls hl => ?_)
      refine lv_iload S.1 S.2.1 dX8_led_66 (lv_at hl 0 rfl) ?_
      refine lv_iconst (v := (-1 : Int32)) S.1 S.2.1 dX8_led_68 (by decide) ?_
      refine lv_icmp_eq (tgt := 138) S.1 S.2.1 dX8_led_69 (by decide) (fun c5 => ?_) (fun c5 => ?_)
      · rw [if_pos c5] at hm
        obtain ⟨y6, ey6, hm⟩ := nmd_ok hm
        refine lv_iinc (v := y6) (lv' := [(7, .int y6), (8, .int r4), (0, .ref (ad 0)), (1, .int x1), (3, .long x3), (5, .int x5), (6, .int x6)]) S.1 S.2.1 dX8_led_138 hl (k := 6) rfl (by rw [ey6]; rfl) (by decide) rfl (fun ls hl => ?_)
        refine lv_goto (tgt := 36) S.1 S.2.1 dX8_led_141 (by decide) ?_
        exact ih _ _ C x1 x3 x5 x6 y6 ls (lv_sub hl [2, 3, 4, 5, 6, 0] rfl) hm
      · rw [if_neg c5] at hm
        refine lv_lload_n S.1 S.2.1 dX8_led_72 rfl (lv_at hl 3 rfl) ?_
        refine lv_aload_n S.1 S.2.1 dX8_led_73 rfl (lv_at hl 1 rfl) ?_
        refine g_get (k := 0) (ci := 7) (f := 28) (v := .ref (ad 23))  S C kiX8_led_X8 kfX8_led_77 rfl (by decide) shR_0 rfl rfl dX8_led_74 ?_
        refine lv_iload S.1 S.2.1 dX8_led_77 (lv_at hl 6 rfl) ?_
        obtain ⟨h7, hm⟩ := ck_ok hm
        refine g_lald S C (k := 23) shR_23 h7 dX8_led_79 ?_
        refine lv_aload_n S.1 S.2.1 dX8_led_80 rfl (lv_at hl 1 rfl) ?_
        refine g_get (k := 0) (ci := 7) (f := 29) (v := .ref (ad 24))  S C kiX8_led_X8 kfX8_led_80 rfl (by decide) shR_0 rfl rfl dX8_led_81 ?_
        refine lv_iload S.1 S.2.1 dX8_led_84 (lv_at hl 6 rfl) ?_
        obtain ⟨h8, hm⟩ := ck_ok hm
        refine g_iald S C (k := 24) shR_24 h8 dX8_led_86 ?_
        obtain ⟨r9, hcr9, hm⟩ := bd_ok hm
        refine gC_i C (gRS (As := [.long x3, .long (M.2 23 x7.toNatClampNeg), .int (M.1 24 x7.toNatClampNeg)]) (rest := []) 3 S C (c_X8_begins l D cy ad M x3 (M.2 23 x7.toNatClampNeg) (M.1 24 x7.toNatClampNeg) r9 hcr9) gX8_led_X8_begins rfl (by decide +kernel) (by decide) rfl hl.1 rfl (Nat.le_of_ble_eq_true rfl) dX8_led_87) (fun H locs C => ?_)
        refine lv_if_eq (tgt := 138) S.1 S.2.1 dX8_led_90 (by decide) (fun c10 => ?_) (fun c10 => ?_)
        · rw [if_pos c10] at hm
          obtain ⟨y11, ey11, hm⟩ := nmd_ok hm
          refine lv_iinc (v := y11) (lv' := [(7, .int y11), (8, .int r4), (0, .ref (ad 0)), (1, .int x1), (3, .long x3), (5, .int x5), (6, .int x6)]) S.1 S.2.1 dX8_led_138 hl (k := 6) rfl (by rw [ey11]; rfl) (by decide) rfl (fun ls hl => ?_)
          refine lv_goto (tgt := 36) S.1 S.2.1 dX8_led_141 (by decide) ?_
          exact ih _ _ C x1 x3 x5 x6 y11 ls (lv_sub hl [2, 3, 4, 5, 6, 0] rfl) hm
        · rw [if_neg c10] at hm
          refine lv_aload_n S.1 S.2.1 dX8_led_93 rfl (lv_at hl 1 rfl) ?_
          refine g_get (k := 0) (ci := 7) (f := 29) (v := .ref (ad 24))  S C kiX8_led_X8 kfX8_led_80 rfl (by decide) shR_0 rfl rfl dX8_led_94 ?_
          refine lv_iload S.1 S.2.1 dX8_led_97 (lv_at hl 6 rfl) ?_
          obtain ⟨h12, hm⟩ := ck_ok hm
          refine g_iald S C (k := 24) shR_24 h12 dX8_led_99 ?_
          refine lv_iload S.1 S.2.1 dX8_led_100 (lv_at hl 4 rfl) ?_
          refine lv_icmp_gt (tgt := 108) S.1 S.2.1 dX8_led_102 (by decide) (fun c13 => ?_) (fun c13 => ?_)
          · rw [if_pos c13] at hm
            refine lv_aload_n S.1 S.2.1 dX8_led_108 rfl (lv_at hl 1 rfl) ?_
            refine g_get (k := 0) (ci := 7) (f := 29) (v := .ref (ad 24))  S C kiX8_led_X8 kfX8_led_80 rfl (by decide) shR_0 rfl rfl dX8_led_109 ?_
            refine lv_iload S.1 S.2.1 dX8_led_112 (lv_at hl 6 rfl) ?_
            obtain ⟨h14, hm⟩ := ck_ok hm
            refine g_iald S C (k := 24) shR_24 h14 dX8_led_114 ?_
            obtain ⟨y15, ey15, hm⟩ := nmd_ok hm
            refine gNmI ey15 ?_
            refine lv_istore (lv' := [(5, .int y15), (8, .int r4), (0, .ref (ad 0)), (1, .int x1), (3, .long x3), (6, .int x6), (7, .int x7)]) S.1 S.2.1 dX8_led_115 hl (by decide) rfl (fun ls hl => ?_)
            refine lv_iload S.1 S.2.1 dX8_led_117 (lv_at hl 1 rfl) ?_
            refine lv_bipush (v := (-2 : Int32)) S.1 S.2.1 dX8_led_119 (by decide) ?_
            refine lv_icmp_ne (tgt := 134) S.1 S.2.1 dX8_led_121 (by decide) (fun c16 => ?_) (fun c16 => ?_)
            · rw [if_neg c16] at hm
              refine lv_iload S.1 S.2.1 dX8_led_134 (lv_at hl 1 rfl) ?_
              refine lv_istore (lv' := [(6, .int r4), (5, .int y15), (8, .int r4), (0, .ref (ad 0)), (1, .int x1), (3, .long x3), (7, .int x7)]) S.1 S.2.1 dX8_led_136 hl (by decide) rfl (fun ls hl => ?_)
              obtain ⟨y17, ey17, hm⟩ := nmd_ok hm
              refine lv_iinc (v := y17) (lv' := [(7, .int y17), (6, .int r4), (5, .int y15), (8, .int r4), (0, .ref (ad 0)), (1, .int x1), (3, .long x3)]) S.1 S.2.1 dX8_led_138 hl (k := 6) rfl (by rw [ey17]; rfl) (by decide) rfl (fun ls hl => ?_)
              refine lv_goto (tgt := 36) S.1 S.2.1 dX8_led_141 (by decide) ?_
              exact ih _ _ C x1 x3 y15 r4 y17 ls (lv_sub hl [4, 5, 6, 2, 1, 0] rfl) hm
            · rw [if_pos c16] at hm
              refine lv_aload_n S.1 S.2.1 dX8_led_124 rfl (lv_at hl 2 rfl) ?_
              refine g_get (k := 0) (ci := 7) (f := 30) (v := .ref (ad 25))  S C kiX8_led_X8 kfX8_led_83 rfl (by decide) shR_0 rfl rfl dX8_led_125 ?_
              refine lv_iload S.1 S.2.1 dX8_led_128 (lv_at hl 6 rfl) ?_
              obtain ⟨h18, hm⟩ := ck_ok hm
              refine g_iald S C (k := 25) shR_25 h18 dX8_led_130 ?_
              refine lv_goto (tgt := 136) S.1 S.2.1 dX8_led_131 (by decide) ?_
              obtain ⟨y19, ey19, hm⟩ := nmd_ok hm
              refine gNmI ey19 ?_
              refine lv_istore (lv' := [(6, .int y19), (5, .int y15), (8, .int r4), (0, .ref (ad 0)), (1, .int x1), (3, .long x3), (7, .int x7)]) S.1 S.2.1 dX8_led_136 hl (by decide) rfl (fun ls hl => ?_)
              obtain ⟨y20, ey20, hm⟩ := nmd_ok hm
              refine lv_iinc (v := y20) (lv' := [(7, .int y20), (6, .int y19), (5, .int y15), (8, .int r4), (0, .ref (ad 0)), (1, .int x1), (3, .long x3)]) S.1 S.2.1 dX8_led_138 hl (k := 6) rfl (by rw [ey20]; rfl) (by decide) rfl (fun ls hl => ?_)
              refine lv_goto (tgt := 36) S.1 S.2.1 dX8_led_141 (by decide) ?_
              exact ih _ _ C x1 x3 y15 y19 y20 ls (lv_sub hl [4, 5, 6, 2, 1, 0] rfl) hm
          · rw [if_neg c13] at hm
            refine lv_goto (tgt := 138) S.1 S.2.1 dX8_led_105 (by decide) ?_
            obtain ⟨y21, ey21, hm⟩ := nmd_ok hm
            refine lv_iinc (v := y21) (lv' := [(7, .int y21), (8, .int r4), (0, .ref (ad 0)), (1, .int x1), (3, .long x3), (5, .int x5), (6, .int x6)]) S.1 S.2.1 dX8_led_138 hl (k := 6) rfl (by rw [ey21]; rfl) (by decide) rfl (fun ls hl => ?_)
            refine lv_goto (tgt := 36) S.1 S.2.1 dX8_led_141 (by decide) ?_
            exact ih _ _ C x1 x3 x5 x6 y21 ls (lv_sub hl [2, 3, 4, 5, 6, 0] rfl) hm
set_option maxHeartbeats 4000000 in
set_option maxRecDepth 100000 in
theorem c_X8_led (l : Launch) (D : va_G) (cy : gCy) (ad : Nat → Nat) (M : gMem) (x1 : Int32) (x2 : Int32) (r0 : Int32) (hm : mX8_led M x1 x2 = some r0) : Met l yX8_led wsX8_led (gR 2 44) (va_Pc [.ref (ad 0), .int x1, .int x2] (gP shR D cy ad M)) (gQi shR D cy ad r0 M) 0 0 (gA shR ad) := by
  refine gEnter (cc := cX8_led) (maxL := 9) (ret := (some .int)) (by decide) rfl (Nat.le_of_ble_eq_true rfl) ?_
  intro p e s m below meth c ls S hr hlk C hl
  have S : CallFix p m c cX8_led 9 s _ wsX8_led RX8 := S
  have hl : lv_has ls 9 [(0, .ref (ad 0)), (1, .int x1), (2, .int x2)] := hl
  rw [mX8_led] at hm
  refine lv_aload_n S.1 S.2.1 dX8_led_0 rfl (lv_at hl 0 rfl) ?_
  refine g_get (k := 0) (ci := 7) (f := 21) (v := .int (M.1 0 21))  S C kiX8_led_X8 kfX8_led_202 rfl (by decide) shR_0 rfl rfl dX8_led_1 ?_
  refine lv_if_eq (tgt := 19) S.1 S.2.1 dX8_led_4 (by decide) (fun c1 => ?_) (fun c1 => ?_)
  · rw [if_pos c1] at hm
    refine lv_iconst (v := (-1 : Int32)) S.1 S.2.1 dX8_led_19 (by decide) ?_
    exact gReti S hr hlk C (Option.some.inj hm) rfl dX8_led_20
  · rw [if_neg c1] at hm
    refine lv_iload_n S.1 S.2.1 dX8_led_7 rfl (lv_at hl 1 rfl) ?_
    refine lv_iconst (v := (0 : Int32)) S.1 S.2.1 dX8_led_8 (by decide) ?_
    refine lv_aload_n S.1 S.2.1 dX8_led_9 rfl (lv_at hl 0 rfl) ?_
    refine g_get (k := 0) (ci := 7) (f := 22) (v := .int (M.1 0 22))  S C kiX8_led_X8 kfX8_led_199 rfl (by decide) shR_0 rfl rfl dX8_led_10 ?_
    obtain ⟨r2, hcr2, hm⟩ := bd_ok hm
    refine gC_i C (gRS (As := [.int x1, .int (0 : Int32), .int (M.1 0 22)]) (rest := []) 3 S C (c_X8_lies l D cy ad M x1 (0 : Int32) (M.1 0 22) r2 hcr2) gX8_led_X8_lies rfl (by decide +kernel) (by decide) rfl hl.1 rfl (Nat.le_of_ble_eq_true rfl) dX8_led_13) (fun H locs C => ?_)
    refine lv_if_ne (tgt := 21) S.1 S.2.1 dX8_led_16 (by decide) (fun c3 => ?_) (fun c3 => ?_)
    · rw [if_neg c3] at hm
      refine lv_iload_n S.1 S.2.1 dX8_led_21 rfl (lv_at hl 2 rfl) ?_
      obtain ⟨r4, hcr4, hm⟩ := bd_ok hm
      refine gC_l C (gRS (As := [.int x2]) (rest := []) 1 S C (c_X8_number l D cy ad M x2 r4 hcr4) gX8_led_X8_number rfl (by decide +kernel) (by decide) rfl hl.1 rfl (Nat.le_of_ble_eq_true rfl) dX8_led_22) (fun H locs C => ?_)
      refine lv_lstore_n (lv' := [(3, .long r4), (0, .ref (ad 0)), (1, .int x1), (2, .int x2)]) S.1 S.2.1 dX8_led_25 rfl hl (by decide) rfl (fun ls hl => ?_)
      refine lv_iconst (v := (-1 : Int32)) S.1 S.2.1 dX8_led_26 (by decide) ?_
      refine lv_istore (lv' := [(5, .int (-1 : Int32)), (3, .long r4), (0, .ref (ad 0)), (1, .int x1), (2, .int x2)]) S.1 S.2.1 dX8_led_27 hl (by decide) rfl (fun ls hl => ?_)
      refine lv_bipush (v := (16 : Int32)) S.1 S.2.1 dX8_led_29 (by decide) ?_
      refine lv_istore (lv' := [(6, .int (16 : Int32)), (5, .int (-1 : Int32)), (3, .long r4), (0, .ref (ad 0)), (1, .int x1), (2, .int x2)]) S.1 S.2.1 dX8_led_31 hl (by decide) rfl (fun ls hl => ?_)
      refine lv_iconst (v := (0 : Int32)) S.1 S.2.1 dX8_led_33 (by decide) ?_
      refine lv_istore (lv' := [(7, .int (0 : Int32)), (6, .int (16 : Int32)), (5, .int (-1 : Int32)), (3, .long r4), (0, .ref (ad 0)), (1, .int x1), (2, .int x2)]) S.1 S.2.1 dX8_led_34 hl (by decide) rfl (fun ls hl => ?_)
      exact wX8_led_36 S hr hlk FU _ _ C x1 r4 (-1 : Int32) (16 : Int32) (0 : Int32) ls (lv_sub hl [4, 5, 3, 2, 1, 0] rfl) hm
    · rw [if_pos c3] at hm
      refine lv_iconst (v := (-1 : Int32)) S.1 S.2.1 dX8_led_19 (by decide) ?_
      exact gReti S hr hlk C (Option.some.inj hm) rfl dX8_led_20
def mX8_counts_3 : Nat → gMem → Int64 → Int32 → Int32 → Option gMem
  | 0, _, _, _, _ => none
  | n + 1, M, x1, x3, x4 => if (M.1 0 31) ≤ x4 then (ck (inb (M.1 0 31) 2200) <| nmd (sJ M 26 (M.1 0 31).toNatClampNeg x1) fun M3 => ck (inb (M3.1 0 31) 2200) <| nmd (sI M3 27 (M3.1 0 31).toNatClampNeg x3) fun M5 => nmd (sI M5 0 31 ((M5.1 0 31) + (1 : Int32))) fun M6 => some M6) else (ck (inb x4 2200) <| if (M.2 26 x4.toNatClampNeg) = x1 then (ck (inb x4 2200) <| if (M.1 27 x4.toNatClampNeg) = x3 then (some M) else (nmd (x4 + (1 : Int32)) fun y12 => mX8_counts_3 n M x1 x3 y12)) else (nmd (x4 + (1 : Int32)) fun y9 => mX8_counts_3 n M x1 x3 y9))
def mX8_counts (M : gMem) (x1 : Int64) (x3 : Int32) : Option gMem := mX8_counts_3 FU M x1 x3 (0 : Int32)
set_option maxHeartbeats 4000000 in
set_option maxRecDepth 100000 in
theorem wX8_counts_3 {p : Program} {l : Launch} {e : Env} {s : State} {m : MethodId} {args : Array Value} {below : List Frame} {meth : Method} {c : Code} {D : va_G} {cy : gCy} {ad : Nat → Nat} {r0 : gMem} (S : CallFix p m c cX8_counts 5 s args wsX8_counts RX8) (hr : meth.sig.returnType = none) (hlk : meth.locks = false) : ∀ (n : Nat), ∀ (M : gMem) (H : Heap) (locs : List Loc), gW shR D cy ad s s.heap M H locs → ∀ (x1 : Int64) (x3 : Int32) (x4 : Int32), ∀ (ls : Array Slot), lv_has ls 5 [(0, .ref (ad 0)), (1, .long x1), (3, .int x3), (4, .int x4)] → mX8_counts_3 n M x1 x3 x4 = some r0 → W p l e (gR 0 0) s m args below meth c H locs 0 0 (MQ below (gQv shR D cy ad r0) args s 0 0 (gA shR ad)) (F0 m 3 ls []) := by
  intro n
  induction n with
  | zero => intro M H locs C x1 x3 x4 ls hl hm; exact absurd hm (by simp [mX8_counts_3])
  | succ n ih =>
    intro M H locs C x1 x3 x4 ls hl hm
    rw [mX8_counts_3] at hm
    refine lv_iload S.1 S.2.1 dX8_counts_3 (lv_at hl 3 rfl) ?_
    refine lv_aload_n S.1 S.2.1 dX8_counts_5 rfl (lv_at hl 0 rfl) ?_
    refine g_get (k := 0) (ci := 7) (f := 31) (v := .int (M.1 0 31))  S C kiX8_counts_X8 kfX8_counts_215 rfl (by decide) shR_0 rfl rfl dX8_counts_6 ?_
    refine lv_icmp_ge (tgt := 42) S.1 S.2.1 dX8_counts_9 (by decide) (fun c1 => ?_) (fun c1 => ?_)
    · rw [if_pos c1] at hm
      refine lv_aload_n S.1 S.2.1 dX8_counts_42 rfl (lv_at hl 0 rfl) ?_
      refine g_get (k := 0) (ci := 7) (f := 32) (v := .ref (ad 26))  S C kiX8_counts_X8 kfX8_counts_86 rfl (by decide) shR_0 rfl rfl dX8_counts_43 ?_
      refine lv_aload_n S.1 S.2.1 dX8_counts_46 rfl (lv_at hl 0 rfl) ?_
      refine g_get (k := 0) (ci := 7) (f := 31) (v := .int (M.1 0 31))  S C kiX8_counts_X8 kfX8_counts_215 rfl (by decide) shR_0 rfl rfl dX8_counts_47 ?_
      refine lv_lload_n S.1 S.2.1 dX8_counts_50 rfl (lv_at hl 1 rfl) ?_
      obtain ⟨h2, hm⟩ := ck_ok hm
      obtain ⟨M3, eM3, hm⟩ := nmd_ok hm
      refine g_last S C (k := 26) shR_26 h2 dX8_counts_51 (fun H locs C => ?_)
      rw [← eM3] at C
      refine lv_aload_n S.1 S.2.1 dX8_counts_52 rfl (lv_at hl 0 rfl) ?_
      refine g_get (k := 0) (ci := 7) (f := 33) (v := .ref (ad 27))  S C kiX8_counts_X8 kfX8_counts_89 rfl (by decide) shR_0 rfl rfl dX8_counts_53 ?_
      refine lv_aload_n S.1 S.2.1 dX8_counts_56 rfl (lv_at hl 0 rfl) ?_
      refine g_get (k := 0) (ci := 7) (f := 31) (v := .int (M3.1 0 31))  S C kiX8_counts_X8 kfX8_counts_215 rfl (by decide) shR_0 rfl rfl dX8_counts_57 ?_
      refine lv_iload_n S.1 S.2.1 dX8_counts_60 rfl (lv_at hl 2 rfl) ?_
      obtain ⟨h4, hm⟩ := ck_ok hm
      obtain ⟨M5, eM5, hm⟩ := nmd_ok hm
      refine g_iast S C (k := 27) shR_27 h4 dX8_counts_61 (fun H locs C => ?_)
      rw [← eM5] at C
      refine lv_aload_n S.1 S.2.1 dX8_counts_62 rfl (lv_at hl 0 rfl) ?_
      refine lv_dup S.1 S.2.1 dX8_counts_63 rfl ?_
      refine g_get (k := 0) (ci := 7) (f := 31) (v := .int (M5.1 0 31))  S C kiX8_counts_X8 kfX8_counts_215 rfl (by decide) shR_0 rfl rfl dX8_counts_64 ?_
      refine lv_iconst (v := (1 : Int32)) S.1 S.2.1 dX8_counts_67 (by decide) ?_
      refine lv_iadd S.1 S.2.1 dX8_counts_68 ?_
      obtain ⟨M6, eM6, hm⟩ := nmd_ok hm
      refine g_put (M' := (sI M5 0 31 ((M5.1 0 31) + (1 : Int32)))) (k := 0) (ci := 7) (f := 31) (v := .int ((M5.1 0 31) + (1 : Int32))) (ty := .int) S C kiX8_counts_X8 tyX8 tyX8_ok nmX8 kfX8_counts_215 rfl (by decide) rfl (by decide +kernel) rfl rfl shR_0 rfl (Nat.le_of_ble_eq_true rfl) (by rw [sI_at]; rfl) sI_off dX8_counts_69 (fun H locs C => ?_)
      rw [← eM6] at C
      exact gRetv S hr hlk C (Option.some.inj hm) dX8_counts_72
    · rw [if_neg c1] at hm
      refine lv_aload_n S.1 S.2.1 dX8_counts_12 rfl (lv_at hl 0 rfl) ?_
      refine g_get (k := 0) (ci := 7) (f := 32) (v := .ref (ad 26))  S C kiX8_counts_X8 kfX8_counts_86 rfl (by decide) shR_0 rfl rfl dX8_counts_13 ?_
      refine lv_iload S.1 S.2.1 dX8_counts_16 (lv_at hl 3 rfl) ?_
      obtain ⟨h7, hm⟩ := ck_ok hm
      refine g_lald S C (k := 26) shR_26 h7 dX8_counts_18 ?_
      refine lv_lload_n S.1 S.2.1 dX8_counts_19 rfl (lv_at hl 1 rfl) ?_
      refine W.lcmp S.1 S.2.1 dX8_counts_20 ?_
      refine lv_if_ne (tgt := 36) S.1 S.2.1 dX8_counts_21 (by decide) (fun c8 => ?_) (fun c8 => ?_)
      · rw [if_neg (fun q => c8 (cmp_eq.mpr q))] at hm
        obtain ⟨y9, ey9, hm⟩ := nmd_ok hm
        refine lv_iinc (v := y9) (lv' := [(4, .int y9), (0, .ref (ad 0)), (1, .long x1), (3, .int x3)]) S.1 S.2.1 dX8_counts_36 hl (k := 3) rfl (by rw [ey9]; rfl) (by decide) rfl (fun ls hl => ?_)
        refine lv_goto (tgt := 3) S.1 S.2.1 dX8_counts_39 (by decide) ?_
        exact ih M _ _ C x1 x3 y9 ls (lv_sub hl [1, 2, 3, 0] rfl) hm
      · rw [if_pos (cmp_eq.mp c8)] at hm
        refine lv_aload_n S.1 S.2.1 dX8_counts_24 rfl (lv_at hl 0 rfl) ?_
        refine g_get (k := 0) (ci := 7) (f := 33) (v := .ref (ad 27))  S C kiX8_counts_X8 kfX8_counts_89 rfl (by decide) shR_0 rfl rfl dX8_counts_25 ?_
        refine lv_iload S.1 S.2.1 dX8_counts_28 (lv_at hl 3 rfl) ?_
        obtain ⟨h10, hm⟩ := ck_ok hm
        refine g_iald S C (k := 27) shR_27 h10 dX8_counts_30 ?_
        refine lv_iload_n S.1 S.2.1 dX8_counts_31 rfl (lv_at hl 2 rfl) ?_
        refine lv_icmp_ne (tgt := 36) S.1 S.2.1 dX8_counts_32 (by decide) (fun c11 => ?_) (fun c11 => ?_)
        · rw [if_neg c11] at hm
          obtain ⟨y12, ey12, hm⟩ := nmd_ok hm
          refine lv_iinc (v := y12) (lv' := [(4, .int y12), (0, .ref (ad 0)), (1, .long x1), (3, .int x3)]) S.1 S.2.1 dX8_counts_36 hl (k := 3) rfl (by rw [ey12]; rfl) (by decide) rfl (fun ls hl => ?_)
          refine lv_goto (tgt := 3) S.1 S.2.1 dX8_counts_39 (by decide) ?_
          exact ih M _ _ C x1 x3 y12 ls (lv_sub hl [1, 2, 3, 0] rfl) hm
        · rw [if_pos c11] at hm
          exact gRetv S hr hlk C (Option.some.inj hm) dX8_counts_35
set_option maxHeartbeats 4000000 in
set_option maxRecDepth 100000 in
theorem c_X8_counts (l : Launch) (D : va_G) (cy : gCy) (ad : Nat → Nat) (M : gMem) (x1 : Int64) (x3 : Int32) (r0 : gMem) (hm : mX8_counts M x1 x3 = some r0) : Met l yX8_counts wsX8_counts (gR 0 0) (va_Pc [.ref (ad 0), .long x1, .int x3] (gP shR D cy ad M)) (gQv shR D cy ad r0) 0 0 (gA shR ad) := by
  refine gEnter (cc := cX8_counts) (maxL := 5) (ret := none) (by decide) rfl (Nat.le_of_ble_eq_true rfl) ?_
  intro p e s m below meth c ls S hr hlk C hl
  have S : CallFix p m c cX8_counts 5 s _ wsX8_counts RX8 := S
  have hl : lv_has ls 5 [(0, .ref (ad 0)), (1, .long x1), (3, .int x3)] := hl
  rw [mX8_counts] at hm
  refine lv_iconst (v := (0 : Int32)) S.1 S.2.1 dX8_counts_0 (by decide) ?_
  refine lv_istore (lv' := [(4, .int (0 : Int32)), (0, .ref (ad 0)), (1, .long x1), (3, .int x3)]) S.1 S.2.1 dX8_counts_1 hl (by decide) rfl (fun ls hl => ?_)
  exact wX8_counts_3 S hr hlk FU M _ _ C x1 x3 (0 : Int32) ls (lv_sub hl [1, 2, 3, 0] rfl) hm
def mX8_pressed_114 (k8 : gMem → Int32 → Int32 → Option gMem) (k44 : gMem → Int32 → Int32 → Int32 → Int32 → Option gMem) (M : gMem) (x1 : Int32) (x2 : Int32) (x3 : Int32) (x4 : Int32) (x5 : Int32) (x6 : Int32) : Option gMem := ck (inb x3 384) <| if (M.1 3 x3.toNatClampNeg) ≤ x6 then (nmd (x4 + (1 : Int32)) fun y3 => k44 M x1 x2 x3 y3) else (ck (inb x5 384) <| if (M.1 3 x5.toNatClampNeg) ≤ x6 then (nmd (x4 + (1 : Int32)) fun y6 => k44 M x1 x2 x3 y6) else (ck (inb x3 384) <| (mX8_size x6).bind fun r8 => ck (nzL r8) <| (mX8_size x6).bind fun r10 => (mX8_counts M (((M.2 2 x3.toNatClampNeg) / r8) * r10) x6).bind fun r11 => nmd (x4 + (1 : Int32)) fun y12 => k44 r11 x1 x2 x3 y12))
def mX8_pressed_62 (k8 : gMem → Int32 → Int32 → Option gMem) (k44 : gMem → Int32 → Int32 → Int32 → Int32 → Option gMem) : Nat → gMem → Int32 → Int32 → Int32 → Int32 → Int32 → Int32 → Option gMem
  | 0, _, _, _, _, _, _, _ => none
  | n + 1, M, x1, x2, x3, x4, x5, x6 => ck (inb x3 384) <| if (M.1 3 x3.toNatClampNeg) ≤ x6 then (mX8_pressed_114 k8 k44 M x1 x2 x3 x4 x5 x6) else (ck (inb x5 384) <| if (M.1 3 x5.toNatClampNeg) ≤ x6 then (mX8_pressed_114 k8 k44 M x1 x2 x3 x4 x5 x6) else (ck (inb x3 384) <| ck (inb x5 384) <| (mX8_begins (M.2 2 x3.toNatClampNeg) (M.2 2 x5.toNatClampNeg) (x6 + (1 : Int32))).bind fun r7 => if r7 = 0 then (mX8_pressed_114 k8 k44 M x1 x2 x3 x4 x5 x6) else (nmd (x6 + (1 : Int32)) fun y9 => mX8_pressed_62 k8 k44 n M x1 x2 x3 x4 x5 y9)))
def mX8_pressed_44 (k8 : gMem → Int32 → Int32 → Option gMem) : Nat → gMem → Int32 → Int32 → Int32 → Int32 → Option gMem
  | 0, _, _, _, _, _ => none
  | n + 1, M, x1, x2, x3, x4 => if x2 ≤ x4 then (nmd (x2 + (1 : Int32)) fun y2 => k8 M x1 y2) else (nmd (((64 : Int32) * x1) + x4) fun y3 => mX8_pressed_62 k8 (mX8_pressed_44 k8 n) FU M x1 x2 x3 x4 y3 (0 : Int32))
def mX8_pressed_8 : Nat → gMem → Int32 → Int32 → Option gMem
  | 0, _, _, _ => none
  | n + 1, M, x1, x2 => ck (inb x1 6) <| if (M.1 1 x1.toNatClampNeg) ≤ x2 then (some M) else (nmd (((64 : Int32) * x1) + x2) fun y3 => ck (inb y3 384) <| ck (inb y3 384) <| (mX8_counts M (M.2 2 y3.toNatClampNeg) (M.1 3 y3.toNatClampNeg)).bind fun r6 => mX8_pressed_44 (mX8_pressed_8 n) FU r6 x1 x2 y3 (0 : Int32))
def mX8_pressed (M : gMem) (x1 : Int32) : Option gMem := (mX8_counts M (0 : Int64) (0 : Int32)).bind fun r1 => mX8_pressed_8 FU r1 x1 (0 : Int32)
set_option maxHeartbeats 4000000 in
set_option maxRecDepth 100000 in
theorem wX8_pressed_114 {p : Program} {l : Launch} {e : Env} {s : State} {m : MethodId} {args : Array Value} {below : List Frame} {meth : Method} {c : Code} {D : va_G} {cy : gCy} {ad : Nat → Nat} {r0 : gMem} (S : CallFix p m c cX8_pressed 7 s args wsX8_pressed RX8) (hr : meth.sig.returnType = none) (hlk : meth.locks = false) {k8 : gMem → Int32 → Int32 → Option gMem} (kk8 : ∀ (M : gMem) (H : Heap) (locs : List Loc), gW shR D cy ad s s.heap M H locs → ∀ (x1 : Int32) (x2 : Int32), ∀ (ls : Array Slot), lv_has ls 7 [(0, .ref (ad 0)), (1, .int x1), (2, .int x2)] → k8 M x1 x2 = some r0 → W p l e (gR 2 44) s m args below meth c H locs 0 0 (MQ below (gQv shR D cy ad r0) args s 0 0 (gA shR ad)) (F0 m 8 ls [])) {k44 : gMem → Int32 → Int32 → Int32 → Int32 → Option gMem} (kk44 : ∀ (M : gMem) (H : Heap) (locs : List Loc), gW shR D cy ad s s.heap M H locs → ∀ (x1 : Int32) (x2 : Int32) (x3 : Int32) (x4 : Int32), ∀ (ls : Array Slot), lv_has ls 7 [(0, .ref (ad 0)), (1, .int x1), (2, .int x2), (3, .int x3), (4, .int x4)] → k44 M x1 x2 x3 x4 = some r0 → W p l e (gR 2 44) s m args below meth c H locs 0 0 (MQ below (gQv shR D cy ad r0) args s 0 0 (gA shR ad)) (F0 m 44 ls [])) : ∀ (M : gMem) (H : Heap) (locs : List Loc), gW shR D cy ad s s.heap M H locs → ∀ (x1 : Int32) (x2 : Int32) (x3 : Int32) (x4 : Int32) (x5 : Int32) (x6 : Int32), ∀ (ls : Array Slot), lv_has ls 7 [(0, .ref (ad 0)), (1, .int x1), (2, .int x2), (3, .int x3), (4, .int x4), (5, .int x5), (6, .int x6)] → mX8_pressed_114 k8 k44 M x1 x2 x3 x4 x5 x6 = some r0 → W p l e (gR 2 44) s m args below meth c H locs 0 0 (MQ below (gQv shR D cy ad r0) args s 0 0 (gA shR ad)) (F0 m 114 ls []) := by
  intro M H locs C x1 x2 x3 x4 x5 x6 ls hl hm
  rw [mX8_pressed_114] at hm
  refine lv_iload S.1 S.2.1 dX8_pressed_114 (lv_at hl 6 rfl) ?_
  refine lv_aload_n S.1 S.2.1 dX8_pressed_116 rfl (lv_at hl 0 rfl) ?_
  refine g_get (k := 0) (ci := 7) (f := 2) (v := .ref (ad 3))  S C kiX8_pressed_X8 kfX8_pressed_17 rfl (by decide) shR_0 rfl rfl dX8_pressed_117 ?_
  refine lv_iload_n S.1 S.2.1 dX8_pressed_120 rfl (lv_at hl 3 rfl) ?_
  obtain ⟨h1, hm⟩ := ck_ok hm
  refine g_iald S C (k := 3) shR_3 h1 dX8_pressed_121 ?_
  refine lv_icmp_ge (tgt := 161) S.1 S.2.1 dX8_pressed_122 (by decide) (fun c2 => ?_) (fun c2 => ?_)
  · rw [if_pos c2] at hm
    obtain ⟨y3, ey3, hm⟩ := nmd_ok hm
    refine lv_iinc (v := y3) (lv' := [(4, .int y3), (0, .ref (ad 0)), (1, .int x1), (2, .int x2), (3, .int x3), (5, .int x5), (6, .int x6)]) S.1 S.2.1 dX8_pressed_161 hl (k := 4) rfl (by rw [ey3]; rfl) (by decide) rfl (fun ls hl => ?_)
    refine lv_goto (tgt := 44) S.1 S.2.1 dX8_pressed_164 (by decide) ?_
    exact kk44 M _ _ C x1 x2 x3 y3 ls (lv_sub hl [1, 2, 3, 4, 0] rfl) hm
  · rw [if_neg c2] at hm
    refine lv_iload S.1 S.2.1 dX8_pressed_125 (lv_at hl 6 rfl) ?_
    refine lv_aload_n S.1 S.2.1 dX8_pressed_127 rfl (lv_at hl 0 rfl) ?_
    refine g_get (k := 0) (ci := 7) (f := 2) (v := .ref (ad 3))  S C kiX8_pressed_X8 kfX8_pressed_17 rfl (by decide) shR_0 rfl rfl dX8_pressed_128 ?_
    refine lv_iload S.1 S.2.1 dX8_pressed_131 (lv_at hl 5 rfl) ?_
    obtain ⟨h4, hm⟩ := ck_ok hm
    refine g_iald S C (k := 3) shR_3 h4 dX8_pressed_133 ?_
    refine lv_icmp_ge (tgt := 161) S.1 S.2.1 dX8_pressed_134 (by decide) (fun c5 => ?_) (fun c5 => ?_)
    · rw [if_pos c5] at hm
      obtain ⟨y6, ey6, hm⟩ := nmd_ok hm
      refine lv_iinc (v := y6) (lv' := [(4, .int y6), (0, .ref (ad 0)), (1, .int x1), (2, .int x2), (3, .int x3), (5, .int x5), (6, .int x6)]) S.1 S.2.1 dX8_pressed_161 hl (k := 4) rfl (by rw [ey6]; rfl) (by decide) rfl (fun ls hl => ?_)
      refine lv_goto (tgt := 44) S.1 S.2.1 dX8_pressed_164 (by decide) ?_
      exact kk44 M _ _ C x1 x2 x3 y6 ls (lv_sub hl [1, 2, 3, 4, 0] rfl) hm
    · rw [if_neg c5] at hm
      refine lv_aload_n S.1 S.2.1 dX8_pressed_137 rfl (lv_at hl 0 rfl) ?_
      refine lv_aload_n S.1 S.2.1 dX8_pressed_138 rfl (lv_at hl 0 rfl) ?_
      refine g_get (k := 0) (ci := 7) (f := 1) (v := .ref (ad 2))  S C kiX8_pressed_X8 kfX8_pressed_13 rfl (by decide) shR_0 rfl rfl dX8_pressed_139 ?_
      refine lv_iload_n S.1 S.2.1 dX8_pressed_142 rfl (lv_at hl 3 rfl) ?_
      obtain ⟨h7, hm⟩ := ck_ok hm
      refine g_lald S C (k := 2) shR_2 h7 dX8_pressed_143 ?_
      refine lv_iload S.1 S.2.1 dX8_pressed_144 (lv_at hl 6 rfl) ?_
      obtain ⟨r8, hcr8, hm⟩ := bd_ok hm
      refine gC_l C (gRS (As := [.int x6]) (rest := [.long (M.2 2 x3.toNatClampNeg), .ref (ad 0)]) 1 S C (c_X8_size l D cy ad M x6 r8 hcr8) gX8_pressed_X8_size rfl (by decide +kernel) (by decide) rfl hl.1 rfl (Nat.le_of_ble_eq_true rfl) dX8_pressed_146) (fun H locs C => ?_)
      obtain ⟨h9, hm⟩ := ck_ok hm
      refine lv_ldiv S.1 S.2.1 dX8_pressed_149 (nzL_ok h9) ?_
      refine lv_iload S.1 S.2.1 dX8_pressed_150 (lv_at hl 6 rfl) ?_
      obtain ⟨r10, hcr10, hm⟩ := bd_ok hm
      refine gC_l C (gRS (As := [.int x6]) (rest := [.long ((M.2 2 x3.toNatClampNeg) / r8), .ref (ad 0)]) 1 S C (c_X8_size l D cy ad M x6 r10 hcr10) gX8_pressed_X8_size rfl (by decide +kernel) (by decide) rfl hl.1 rfl (Nat.le_of_ble_eq_true rfl) dX8_pressed_152) (fun H locs C => ?_)
      refine lv_lmul S.1 S.2.1 dX8_pressed_155 ?_
      refine lv_iload S.1 S.2.1 dX8_pressed_156 (lv_at hl 6 rfl) ?_
      obtain ⟨r11, hcr11, hm⟩ := bd_ok hm
      refine gC_v C (gRV (k := 0) (ci := 7) (r := (RX8, TX8, 34)) (As := [.long (((M.2 2 x3.toNatClampNeg) / r8) * r10), .int x6]) (rest := []) 2 S C (c_X8_counts l D cy ad M (((M.2 2 x3.toNatClampNeg) / r8) * r10) x6 r11 hcr11) gX8_pressed_X8_counts rfl (by decide +kernel) (by decide) shR_0 rfl rfl rfl hl.1 rfl (Nat.le_of_ble_eq_true rfl) dX8_pressed_158) (fun H locs C => ?_)
      obtain ⟨y12, ey12, hm⟩ := nmd_ok hm
      refine lv_iinc (v := y12) (lv' := [(4, .int y12), (0, .ref (ad 0)), (1, .int x1), (2, .int x2), (3, .int x3), (5, .int x5), (6, .int x6)]) S.1 S.2.1 dX8_pressed_161 hl (k := 4) rfl (by rw [ey12]; rfl) (by decide) rfl (fun ls hl => ?_)
      refine lv_goto (tgt := 44) S.1 S.2.1 dX8_pressed_164 (by decide) ?_
      exact kk44 r11 _ _ C x1 x2 x3 y12 ls (lv_sub hl [1, 2, 3, 4, 0] rfl) hm
set_option maxHeartbeats 4000000 in
set_option maxRecDepth 100000 in
theorem wX8_pressed_62 {p : Program} {l : Launch} {e : Env} {s : State} {m : MethodId} {args : Array Value} {below : List Frame} {meth : Method} {c : Code} {D : va_G} {cy : gCy} {ad : Nat → Nat} {r0 : gMem} (S : CallFix p m c cX8_pressed 7 s args wsX8_pressed RX8) (hr : meth.sig.returnType = none) (hlk : meth.locks = false) {k8 : gMem → Int32 → Int32 → Option gMem} (kk8 : ∀ (M : gMem) (H : Heap) (locs : List Loc), gW shR D cy ad s s.heap M H locs → ∀ (x1 : Int32) (x2 : Int32), ∀ (ls : Array Slot), lv_has ls 7 [(0, .ref (ad 0)), (1, .int x1), (2, .int x2)] → k8 M x1 x2 = some r0 → W p l e (gR 2 44) s m args below meth c H locs 0 0 (MQ below (gQv shR D cy ad r0) args s 0 0 (gA shR ad)) (F0 m 8 ls [])) {k44 : gMem → Int32 → Int32 → Int32 → Int32 → Option gMem} (kk44 : ∀ (M : gMem) (H : Heap) (locs : List Loc), gW shR D cy ad s s.heap M H locs → ∀ (x1 : Int32) (x2 : Int32) (x3 : Int32) (x4 : Int32), ∀ (ls : Array Slot), lv_has ls 7 [(0, .ref (ad 0)), (1, .int x1), (2, .int x2), (3, .int x3), (4, .int x4)] → k44 M x1 x2 x3 x4 = some r0 → W p l e (gR 2 44) s m args below meth c H locs 0 0 (MQ below (gQv shR D cy ad r0) args s 0 0 (gA shR ad)) (F0 m 44 ls [])) : ∀ (n : Nat), ∀ (M : gMem) (H : Heap) (locs : List Loc), gW shR D cy ad s s.heap M H locs → ∀ (x1 : Int32) (x2 : Int32) (x3 : Int32) (x4 : Int32) (x5 : Int32) (x6 : Int32), ∀ (ls : Array Slot), lv_has ls 7 [(0, .ref (ad 0)), (1, .int x1), (2, .int x2), (3, .int x3), (4, .int x4), (5, .int x5), (6, .int x6)] → mX8_pressed_62 k8 k44 n M x1 x2 x3 x4 x5 x6 = some r0 → W p l e (gR 2 44) s m args below meth c H locs 0 0 (MQ below (gQv shR D cy ad r0) args s 0 0 (gA shR ad)) (F0 m 62 ls []) := by
  intro n
  induction n with
  | zero => intro M H locs C x1 x2 x3 x4 x5 x6 ls hl hm; exact absurd hm (by simp [mX8_pressed_62])
  | succ n ih =>
    intro M H locs C x1 x2 x3 x4 x5 x6 ls hl hm
    rw [mX8_pressed_62] at hm
    refine lv_iload S.1 S.2.1 dX8_pressed_62 (lv_at hl 6 rfl) ?_
    refine lv_aload_n S.1 S.2.1 dX8_pressed_64 rfl (lv_at hl 0 rfl) ?_
    refine g_get (k := 0) (ci := 7) (f := 2) (v := .ref (ad 3))  S C kiX8_pressed_X8 kfX8_pressed_17 rfl (by decide) shR_0 rfl rfl dX8_pressed_65 ?_
    refine lv_iload_n S.1 S.2.1 dX8_pressed_68 rfl (lv_at hl 3 rfl) ?_
    obtain ⟨h1, hm⟩ := ck_ok hm
    refine g_iald S C (k := 3) shR_3 h1 dX8_pressed_69 ?_
    refine lv_icmp_ge (tgt := 114) S.1 S.2.1 dX8_pressed_70 (by decide) (fun c2 => ?_) (fun c2 => ?_)
    · rw [if_pos c2] at hm
      exact wX8_pressed_114 S hr hlk kk8 kk44 M _ _ C x1 x2 x3 x4 x5 x6 ls (lv_sub hl [0, 1, 2, 3, 4, 5, 6] rfl) hm
    · rw [if_neg c2] at hm
      refine lv_iload S.1 S.2.1 dX8_pressed_73 (lv_at hl 6 rfl) ?_
      refine lv_aload_n S.1 S.2.1 dX8_pressed_75 rfl (lv_at hl 0 rfl) ?_
      refine g_get (k := 0) (ci := 7) (f := 2) (v := .ref (ad 3))  S C kiX8_pressed_X8 kfX8_pressed_17 rfl (by decide) shR_0 rfl rfl dX8_pressed_76 ?_
      refine lv_iload S.1 S.2.1 dX8_pressed_79 (lv_at hl 5 rfl) ?_
      obtain ⟨h3, hm⟩ := ck_ok hm
      refine g_iald S C (k := 3) shR_3 h3 dX8_pressed_81 ?_
      refine lv_icmp_ge (tgt := 114) S.1 S.2.1 dX8_pressed_82 (by decide) (fun c4 => ?_) (fun c4 => ?_)
      · rw [if_pos c4] at hm
        exact wX8_pressed_114 S hr hlk kk8 kk44 M _ _ C x1 x2 x3 x4 x5 x6 ls (lv_sub hl [0, 1, 2, 3, 4, 5, 6] rfl) hm
      · rw [if_neg c4] at hm
        refine lv_aload_n S.1 S.2.1 dX8_pressed_85 rfl (lv_at hl 0 rfl) ?_
        refine g_get (k := 0) (ci := 7) (f := 1) (v := .ref (ad 2))  S C kiX8_pressed_X8 kfX8_pressed_13 rfl (by decide) shR_0 rfl rfl dX8_pressed_86 ?_
        refine lv_iload_n S.1 S.2.1 dX8_pressed_89 rfl (lv_at hl 3 rfl) ?_
        obtain ⟨h5, hm⟩ := ck_ok hm
        refine g_lald S C (k := 2) shR_2 h5 dX8_pressed_90 ?_
        refine lv_aload_n S.1 S.2.1 dX8_pressed_91 rfl (lv_at hl 0 rfl) ?_
        refine g_get (k := 0) (ci := 7) (f := 1) (v := .ref (ad 2))  S C kiX8_pressed_X8 kfX8_pressed_13 rfl (by decide) shR_0 rfl rfl dX8_pressed_92 ?_
        refine lv_iload S.1 S.2.1 dX8_pressed_95 (lv_at hl 5 rfl) ?_
        obtain ⟨h6, hm⟩ := ck_ok hm
        refine g_lald S C (k := 2) shR_2 h6 dX8_pressed_97 ?_
        refine lv_iload S.1 S.2.1 dX8_pressed_98 (lv_at hl 6 rfl) ?_
        refine lv_iconst (v := (1 : Int32)) S.1 S.2.1 dX8_pressed_100 (by decide) ?_
        refine lv_iadd S.1 S.2.1 dX8_pressed_101 ?_
        obtain ⟨r7, hcr7, hm⟩ := bd_ok hm
        refine gC_i C (gRS (As := [.long (M.2 2 x3.toNatClampNeg), .long (M.2 2 x5.toNatClampNeg), .int (x6 + (1 : Int32))]) (rest := []) 3 S C (c_X8_begins l D cy ad M (M.2 2 x3.toNatClampNeg) (M.2 2 x5.toNatClampNeg) (x6 + (1 : Int32)) r7 hcr7) gX8_pressed_X8_begins rfl (by decide +kernel) (by decide) rfl hl.1 rfl (Nat.le_of_ble_eq_true rfl) dX8_pressed_102) (fun H locs C => ?_)
        refine lv_if_eq (tgt := 114) S.1 S.2.1 dX8_pressed_105 (by decide) (fun c8 => ?_) (fun c8 => ?_)
        · rw [if_pos c8] at hm
          exact wX8_pressed_114 S hr hlk kk8 kk44 M _ _ C x1 x2 x3 x4 x5 x6 ls (lv_sub hl [0, 1, 2, 3, 4, 5, 6] rfl) hm
        · rw [if_neg c8] at hm
          obtain ⟨y9, ey9, hm⟩ := nmd_ok hm
          refine lv_iinc (v := y9) (lv' := [(6, .int y9), (0, .ref (ad 0)), (1, .int x1), (2, .int x2), (3, .int x3), (4, .int x4), (5, .int x5)]) S.1 S.2.1 dX8_pressed_108 hl (k := 6) rfl (by rw [ey9]; rfl) (by decide) rfl (fun ls hl => ?_)
          refine lv_goto (tgt := 62) S.1 S.2.1 dX8_pressed_111 (by decide) ?_
          exact ih M _ _ C x1 x2 x3 x4 x5 y9 ls (lv_sub hl [1, 2, 3, 4, 5, 6, 0] rfl) hm
set_option maxHeartbeats 4000000 in
set_option maxRecDepth 100000 in
theorem wX8_pressed_44 {p : Program} {l : Launch} {e : Env} {s : State} {m : MethodId} {args : Array Value} {below : List Frame} {meth : Method} {c : Code} {D : va_G} {cy : gCy} {ad : Nat → Nat} {r0 : gMem} (S : CallFix p m c cX8_pressed 7 s args wsX8_pressed RX8) (hr : meth.sig.returnType = none) (hlk : meth.locks = false) {k8 : gMem → Int32 → Int32 → Option gMem} (kk8 : ∀ (M : gMem) (H : Heap) (locs : List Loc), gW shR D cy ad s s.heap M H locs → ∀ (x1 : Int32) (x2 : Int32), ∀ (ls : Array Slot), lv_has ls 7 [(0, .ref (ad 0)), (1, .int x1), (2, .int x2)] → k8 M x1 x2 = some r0 → W p l e (gR 2 44) s m args below meth c H locs 0 0 (MQ below (gQv shR D cy ad r0) args s 0 0 (gA shR ad)) (F0 m 8 ls [])) : ∀ (n : Nat), ∀ (M : gMem) (H : Heap) (locs : List Loc), gW shR D cy ad s s.heap M H locs → ∀ (x1 : Int32) (x2 : Int32) (x3 : Int32) (x4 : Int32), ∀ (ls : Array Slot), lv_has ls 7 [(0, .ref (ad 0)), (1, .int x1), (2, .int x2), (3, .int x3), (4, .int x4)] → mX8_pressed_44 k8 n M x1 x2 x3 x4 = some r0 → W p l e (gR 2 44) s m args below meth c H locs 0 0 (MQ below (gQv shR D cy ad r0) args s 0 0 (gA shR ad)) (F0 m 44 ls []) := by
  intro n
  induction n with
  | zero => intro M H locs C x1 x2 x3 x4 ls hl hm; exact absurd hm (by simp [mX8_pressed_44])
  | succ n ih =>
    intro M H locs C x1 x2 x3 x4 ls hl hm
    rw [mX8_pressed_44] at hm
    refine lv_iload S.1 S.2.1 dX8_pressed_44 (lv_at hl 4 rfl) ?_
    refine lv_iload_n S.1 S.2.1 dX8_pressed_46 rfl (lv_at hl 2 rfl) ?_
    refine lv_icmp_ge (tgt := 167) S.1 S.2.1 dX8_pressed_47 (by decide) (fun c1 => ?_) (fun c1 => ?_)
    · rw [if_pos c1] at hm
      obtain ⟨y2, ey2, hm⟩ := nmd_ok hm
      refine lv_iinc (v := y2) (lv' := [(2, .int y2), (0, .ref (ad 0)), (1, .int x1), (3, .int x3), (4, .int x4)]) S.1 S.2.1 dX8_pressed_167 hl (k := 2) rfl (by rw [ey2]; rfl) (by decide) rfl (fun ls hl => ?_)
      refine lv_goto (tgt := 8) S.1 S.2.1 dX8_pressed_170 (by decide) ?_
      exact kk8 M _ _ C x1 y2 ls (lv_sub hl [1, 2, 0] rfl) hm
    · rw [if_neg c1] at hm
      refine lv_bipush (v := (64 : Int32)) S.1 S.2.1 dX8_pressed_50 (by decide) ?_
      refine lv_iload_n S.1 S.2.1 dX8_pressed_52 rfl (lv_at hl 1 rfl) ?_
      refine lv_imul S.1 S.2.1 dX8_pressed_53 ?_
      refine lv_iload S.1 S.2.1 dX8_pressed_54 (lv_at hl 4 rfl) ?_
      refine lv_iadd S.1 S.2.1 dX8_pressed_56 ?_
      obtain ⟨y3, ey3, hm⟩ := nmd_ok hm
      refine gNmI ey3 ?_
      refine lv_istore (lv' := [(5, .int y3), (0, .ref (ad 0)), (1, .int x1), (2, .int x2), (3, .int x3), (4, .int x4)]) S.1 S.2.1 dX8_pressed_57 hl (by decide) rfl (fun ls hl => ?_)
      refine lv_iconst (v := (0 : Int32)) S.1 S.2.1 dX8_pressed_59 (by decide) ?_
      refine lv_istore (lv' := [(6, .int (0 : Int32)), (5, .int y3), (0, .ref (ad 0)), (1, .int x1), (2, .int x2), (3, .int x3), (4, .int x4)]) S.1 S.2.1 dX8_pressed_60 hl (by decide) rfl (fun ls hl => ?_)
      exact wX8_pressed_62 S hr hlk kk8 ih FU M _ _ C x1 x2 x3 x4 y3 (0 : Int32) ls (lv_sub hl [2, 3, 4, 5, 6, 1, 0] rfl) hm
set_option maxHeartbeats 4000000 in
set_option maxRecDepth 100000 in
theorem wX8_pressed_8 {p : Program} {l : Launch} {e : Env} {s : State} {m : MethodId} {args : Array Value} {below : List Frame} {meth : Method} {c : Code} {D : va_G} {cy : gCy} {ad : Nat → Nat} {r0 : gMem} (S : CallFix p m c cX8_pressed 7 s args wsX8_pressed RX8) (hr : meth.sig.returnType = none) (hlk : meth.locks = false) : ∀ (n : Nat), ∀ (M : gMem) (H : Heap) (locs : List Loc), gW shR D cy ad s s.heap M H locs → ∀ (x1 : Int32) (x2 : Int32), ∀ (ls : Array Slot), lv_has ls 7 [(0, .ref (ad 0)), (1, .int x1), (2, .int x2)] → mX8_pressed_8 n M x1 x2 = some r0 → W p l e (gR 2 44) s m args below meth c H locs 0 0 (MQ below (gQv shR D cy ad r0) args s 0 0 (gA shR ad)) (F0 m 8 ls []) := by
  intro n
  induction n with
  | zero => intro M H locs C x1 x2 ls hl hm; exact absurd hm (by simp [mX8_pressed_8])
  | succ n ih =>
    intro M H locs C x1 x2 ls hl hm
    rw [mX8_pressed_8] at hm
    refine lv_iload_n S.1 S.2.1 dX8_pressed_8 rfl (lv_at hl 2 rfl) ?_
    refine lv_aload_n S.1 S.2.1 dX8_pressed_9 rfl (lv_at hl 0 rfl) ?_
    refine g_get (k := 0) (ci := 7) (f := 0) (v := .ref (ad 1))  S C kiX8_pressed_X8 kfX8_pressed_7 rfl (by decide) shR_0 rfl rfl dX8_pressed_10 ?_
    refine lv_iload_n S.1 S.2.1 dX8_pressed_13 rfl (lv_at hl 1 rfl) ?_
    obtain ⟨h1, hm⟩ := ck_ok hm
    refine g_iald S C (k := 1) shR_1 h1 dX8_pressed_14 ?_
    refine lv_icmp_ge (tgt := 173) S.1 S.2.1 dX8_pressed_15 (by decide) (fun c2 => ?_) (fun c2 => ?_)
    · rw [if_pos c2] at hm
      exact gRetv S hr hlk C (Option.some.inj hm) dX8_pressed_173
    · rw [if_neg c2] at hm
      refine lv_bipush (v := (64 : Int32)) S.1 S.2.1 dX8_pressed_18 (by decide) ?_
      refine lv_iload_n S.1 S.2.1 dX8_pressed_20 rfl (lv_at hl 1 rfl) ?_
      refine lv_imul S.1 S.2.1 dX8_pressed_21 ?_
      refine lv_iload_n S.1 S.2.1 dX8_pressed_22 rfl (lv_at hl 2 rfl) ?_
      refine lv_iadd S.1 S.2.1 dX8_pressed_23 ?_
      obtain ⟨y3, ey3, hm⟩ := nmd_ok hm
      refine gNmI ey3 ?_
      refine lv_istore_n (lv' := [(3, .int y3), (0, .ref (ad 0)), (1, .int x1), (2, .int x2)]) S.1 S.2.1 dX8_pressed_24 rfl hl (by decide) rfl (fun ls hl => ?_)
      refine lv_aload_n S.1 S.2.1 dX8_pressed_25 rfl (lv_at hl 1 rfl) ?_
      refine lv_aload_n S.1 S.2.1 dX8_pressed_26 rfl (lv_at hl 1 rfl) ?_
      refine g_get (k := 0) (ci := 7) (f := 1) (v := .ref (ad 2))  S C kiX8_pressed_X8 kfX8_pressed_13 rfl (by decide) shR_0 rfl rfl dX8_pressed_27 ?_
      refine lv_iload_n S.1 S.2.1 dX8_pressed_30 rfl (lv_at hl 0 rfl) ?_
      obtain ⟨h4, hm⟩ := ck_ok hm
      refine g_lald S C (k := 2) shR_2 h4 dX8_pressed_31 ?_
      refine lv_aload_n S.1 S.2.1 dX8_pressed_32 rfl (lv_at hl 1 rfl) ?_
      refine g_get (k := 0) (ci := 7) (f := 2) (v := .ref (ad 3))  S C kiX8_pressed_X8 kfX8_pressed_17 rfl (by decide) shR_0 rfl rfl dX8_pressed_33 ?_
      refine lv_iload_n S.1 S.2.1 dX8_pressed_36 rfl (lv_at hl 0 rfl) ?_
      obtain ⟨h5, hm⟩ := ck_ok hm
      refine g_iald S C (k := 3) shR_3 h5 dX8_pressed_37 ?_
      obtain ⟨r6, hcr6, hm⟩ := bd_ok hm
      refine gC_v C (gRV (k := 0) (ci := 7) (r := (RX8, TX8, 34)) (As := [.long (M.2 2 y3.toNatClampNeg), .int (M.1 3 y3.toNatClampNeg)]) (rest := []) 2 S C (c_X8_counts l D cy ad M (M.2 2 y3.toNatClampNeg) (M.1 3 y3.toNatClampNeg) r6 hcr6) gX8_pressed_X8_counts rfl (by decide +kernel) (by decide) shR_0 rfl rfl rfl hl.1 rfl (Nat.le_of_ble_eq_true rfl) dX8_pressed_38) (fun H locs C => ?_)
      refine lv_iconst (v := (0 : Int32)) S.1 S.2.1 dX8_pressed_41 (by decide) ?_
      refine lv_istore (lv' := [(4, .int (0 : Int32)), (3, .int y3), (0, .ref (ad 0)), (1, .int x1), (2, .int x2)]) S.1 S.2.1 dX8_pressed_42 hl (by decide) rfl (fun ls hl => ?_)
      exact wX8_pressed_44 S hr hlk ih FU r6 _ _ C x1 x2 y3 (0 : Int32) ls (lv_sub hl [2, 3, 4, 1, 0] rfl) hm
set_option maxHeartbeats 4000000 in
set_option maxRecDepth 100000 in
theorem c_X8_pressed (l : Launch) (D : va_G) (cy : gCy) (ad : Nat → Nat) (M : gMem) (x1 : Int32) (r0 : gMem) (hm : mX8_pressed M x1 = some r0) : Met l yX8_pressed wsX8_pressed (gR 2 44) (va_Pc [.ref (ad 0), .int x1] (gP shR D cy ad M)) (gQv shR D cy ad r0) 0 0 (gA shR ad) := by
  refine gEnter (cc := cX8_pressed) (maxL := 7) (ret := none) (by decide) rfl (Nat.le_of_ble_eq_true rfl) ?_
  intro p e s m below meth c ls S hr hlk C hl
  have S : CallFix p m c cX8_pressed 7 s _ wsX8_pressed RX8 := S
  have hl : lv_has ls 7 [(0, .ref (ad 0)), (1, .int x1)] := hl
  rw [mX8_pressed] at hm
  refine lv_aload_n S.1 S.2.1 dX8_pressed_0 rfl (lv_at hl 0 rfl) ?_
  refine lv_lconst (v := (0 : Int64)) S.1 S.2.1 dX8_pressed_1 (by decide) ?_
  refine lv_iconst (v := (0 : Int32)) S.1 S.2.1 dX8_pressed_2 (by decide) ?_
  obtain ⟨r1, hcr1, hm⟩ := bd_ok hm
  refine gC_v C (gRV (k := 0) (ci := 7) (r := (RX8, TX8, 34)) (As := [.long (0 : Int64), .int (0 : Int32)]) (rest := []) 2 S C (c_X8_counts l D cy ad M (0 : Int64) (0 : Int32) r1 hcr1) gX8_pressed_X8_counts rfl (by decide +kernel) (by decide) shR_0 rfl rfl rfl hl.1 rfl (Nat.le_of_ble_eq_true rfl) dX8_pressed_3) (fun H locs C => ?_)
  refine lv_iconst (v := (0 : Int32)) S.1 S.2.1 dX8_pressed_6 (by decide) ?_
  refine lv_istore_n (lv' := [(2, .int (0 : Int32)), (0, .ref (ad 0)), (1, .int x1)]) S.1 S.2.1 dX8_pressed_7 rfl hl (by decide) rfl (fun ls hl => ?_)
  exact wX8_pressed_8 S hr hlk FU r1 _ _ C x1 (0 : Int32) ls (lv_sub hl [1, 2, 0] rfl) hm
def mX8_strides_29 (k8 : gMem → Int32 → Int32 → Option gMem) : Nat → gMem → Int32 → Int32 → Int32 → Int32 → Option gMem
  | 0, _, _, _, _, _ => none
  | n + 1, M, x1, x2, x3, x4 => ck (inb x3 384) <| if (M.1 3 x3.toNatClampNeg) ≤ x4 then (nmd (x2 + (1 : Int32)) fun y3 => k8 M x1 y3) else (ck (inb x3 384) <| (mX8_size x4).bind fun r5 => ck (nzL r5) <| (mX8_size x4).bind fun r7 => (mX8_counts M (((M.2 2 x3.toNatClampNeg) / r5) * r7) x4).bind fun r8 => nmd (x4 + (6 : Int32)) fun y9 => mX8_strides_29 k8 n r8 x1 x2 x3 y9)
def mX8_strides_8 : Nat → gMem → Int32 → Int32 → Option gMem
  | 0, _, _, _ => none
  | n + 1, M, x1, x2 => ck (inb x1 6) <| if (M.1 1 x1.toNatClampNeg) ≤ x2 then (some M) else (nmd (((64 : Int32) * x1) + x2) fun y3 => mX8_strides_29 (mX8_strides_8 n) FU M x1 x2 y3 (6 : Int32))
def mX8_strides (M : gMem) (x1 : Int32) : Option gMem := (mX8_counts M (0 : Int64) (0 : Int32)).bind fun r1 => mX8_strides_8 FU r1 x1 (0 : Int32)
set_option maxHeartbeats 4000000 in
set_option maxRecDepth 100000 in
theorem wX8_strides_29 {p : Program} {l : Launch} {e : Env} {s : State} {m : MethodId} {args : Array Value} {below : List Frame} {meth : Method} {c : Code} {D : va_G} {cy : gCy} {ad : Nat → Nat} {r0 : gMem} (S : CallFix p m c cX8_strides 5 s args wsX8_strides RX8) (hr : meth.sig.returnType = none) (hlk : meth.locks = false) {k8 : gMem → Int32 → Int32 → Option gMem} (kk8 : ∀ (M : gMem) (H : Heap) (locs : List Loc), gW shR D cy ad s s.heap M H locs → ∀ (x1 : Int32) (x2 : Int32), ∀ (ls : Array Slot), lv_has ls 5 [(0, .ref (ad 0)), (1, .int x1), (2, .int x2)] → k8 M x1 x2 = some r0 → W p l e (gR 1 24) s m args below meth c H locs 0 0 (MQ below (gQv shR D cy ad r0) args s 0 0 (gA shR ad)) (F0 m 8 ls [])) : ∀ (n : Nat), ∀ (M : gMem) (H : Heap) (locs : List Loc), gW shR D cy ad s s.heap M H locs → ∀ (x1 : Int32) (x2 : Int32) (x3 : Int32) (x4 : Int32), ∀ (ls : Array Slot), lv_has ls 5 [(0, .ref (ad 0)), (1, .int x1), (2, .int x2), (3, .int x3), (4, .int x4)] → mX8_strides_29 k8 n M x1 x2 x3 x4 = some r0 → W p l e (gR 1 24) s m args below meth c H locs 0 0 (MQ below (gQv shR D cy ad r0) args s 0 0 (gA shR ad)) (F0 m 29 ls []) := by
  intro n
  induction n with
  | zero => intro M H locs C x1 x2 x3 x4 ls hl hm; exact absurd hm (by simp [mX8_strides_29])
  | succ n ih =>
    intro M H locs C x1 x2 x3 x4 ls hl hm
    rw [mX8_strides_29] at hm
    refine lv_iload S.1 S.2.1 dX8_strides_29 (lv_at hl 4 rfl) ?_
    refine lv_aload_n S.1 S.2.1 dX8_strides_31 rfl (lv_at hl 0 rfl) ?_
    refine g_get (k := 0) (ci := 7) (f := 2) (v := .ref (ad 3))  S C kiX8_strides_X8 kfX8_strides_17 rfl (by decide) shR_0 rfl rfl dX8_strides_32 ?_
    refine lv_iload_n S.1 S.2.1 dX8_strides_35 rfl (lv_at hl 3 rfl) ?_
    obtain ⟨h1, hm⟩ := ck_ok hm
    refine g_iald S C (k := 3) shR_3 h1 dX8_strides_36 ?_
    refine lv_icmp_ge (tgt := 70) S.1 S.2.1 dX8_strides_37 (by decide) (fun c2 => ?_) (fun c2 => ?_)
    · rw [if_pos c2] at hm
      obtain ⟨y3, ey3, hm⟩ := nmd_ok hm
      refine lv_iinc (v := y3) (lv' := [(2, .int y3), (0, .ref (ad 0)), (1, .int x1), (3, .int x3), (4, .int x4)]) S.1 S.2.1 dX8_strides_70 hl (k := 2) rfl (by rw [ey3]; rfl) (by decide) rfl (fun ls hl => ?_)
      refine lv_goto (tgt := 8) S.1 S.2.1 dX8_strides_73 (by decide) ?_
      exact kk8 M _ _ C x1 y3 ls (lv_sub hl [1, 2, 0] rfl) hm
    · rw [if_neg c2] at hm
      refine lv_aload_n S.1 S.2.1 dX8_strides_40 rfl (lv_at hl 0 rfl) ?_
      refine lv_aload_n S.1 S.2.1 dX8_strides_41 rfl (lv_at hl 0 rfl) ?_
      refine g_get (k := 0) (ci := 7) (f := 1) (v := .ref (ad 2))  S C kiX8_strides_X8 kfX8_strides_13 rfl (by decide) shR_0 rfl rfl dX8_strides_42 ?_
      refine lv_iload_n S.1 S.2.1 dX8_strides_45 rfl (lv_at hl 3 rfl) ?_
      obtain ⟨h4, hm⟩ := ck_ok hm
      refine g_lald S C (k := 2) shR_2 h4 dX8_strides_46 ?_
      refine lv_iload S.1 S.2.1 dX8_strides_47 (lv_at hl 4 rfl) ?_
      obtain ⟨r5, hcr5, hm⟩ := bd_ok hm
      refine gC_l C (gRS (As := [.int x4]) (rest := [.long (M.2 2 x3.toNatClampNeg), .ref (ad 0)]) 1 S C (c_X8_size l D cy ad M x4 r5 hcr5) gX8_strides_X8_size rfl (by decide +kernel) (by decide) rfl hl.1 rfl (Nat.le_of_ble_eq_true rfl) dX8_strides_49) (fun H locs C => ?_)
      obtain ⟨h6, hm⟩ := ck_ok hm
      refine lv_ldiv S.1 S.2.1 dX8_strides_52 (nzL_ok h6) ?_
      refine lv_iload S.1 S.2.1 dX8_strides_53 (lv_at hl 4 rfl) ?_
      obtain ⟨r7, hcr7, hm⟩ := bd_ok hm
      refine gC_l C (gRS (As := [.int x4]) (rest := [.long ((M.2 2 x3.toNatClampNeg) / r5), .ref (ad 0)]) 1 S C (c_X8_size l D cy ad M x4 r7 hcr7) gX8_strides_X8_size rfl (by decide +kernel) (by decide) rfl hl.1 rfl (Nat.le_of_ble_eq_true rfl) dX8_strides_55) (fun H locs C => ?_)
      refine lv_lmul S.1 S.2.1 dX8_strides_58 ?_
      refine lv_iload S.1 S.2.1 dX8_strides_59 (lv_at hl 4 rfl) ?_
      obtain ⟨r8, hcr8, hm⟩ := bd_ok hm
      refine gC_v C (gRV (k := 0) (ci := 7) (r := (RX8, TX8, 34)) (As := [.long (((M.2 2 x3.toNatClampNeg) / r5) * r7), .int x4]) (rest := []) 2 S C (c_X8_counts l D cy ad M (((M.2 2 x3.toNatClampNeg) / r5) * r7) x4 r8 hcr8) gX8_strides_X8_counts rfl (by decide +kernel) (by decide) shR_0 rfl rfl rfl hl.1 rfl (Nat.le_of_ble_eq_true rfl) dX8_strides_61) (fun H locs C => ?_)
      obtain ⟨y9, ey9, hm⟩ := nmd_ok hm
      refine lv_iinc (v := y9) (lv' := [(4, .int y9), (0, .ref (ad 0)), (1, .int x1), (2, .int x2), (3, .int x3)]) S.1 S.2.1 dX8_strides_64 hl (k := 4) rfl (by rw [ey9]; rfl) (by decide) rfl (fun ls hl => ?_)
      refine lv_goto (tgt := 29) S.1 S.2.1 dX8_strides_67 (by decide) ?_
      exact ih r8 _ _ C x1 x2 x3 y9 ls (lv_sub hl [1, 2, 3, 4, 0] rfl) hm
set_option maxHeartbeats 4000000 in
set_option maxRecDepth 100000 in
theorem wX8_strides_8 {p : Program} {l : Launch} {e : Env} {s : State} {m : MethodId} {args : Array Value} {below : List Frame} {meth : Method} {c : Code} {D : va_G} {cy : gCy} {ad : Nat → Nat} {r0 : gMem} (S : CallFix p m c cX8_strides 5 s args wsX8_strides RX8) (hr : meth.sig.returnType = none) (hlk : meth.locks = false) : ∀ (n : Nat), ∀ (M : gMem) (H : Heap) (locs : List Loc), gW shR D cy ad s s.heap M H locs → ∀ (x1 : Int32) (x2 : Int32), ∀ (ls : Array Slot), lv_has ls 5 [(0, .ref (ad 0)), (1, .int x1), (2, .int x2)] → mX8_strides_8 n M x1 x2 = some r0 → W p l e (gR 1 24) s m args below meth c H locs 0 0 (MQ below (gQv shR D cy ad r0) args s 0 0 (gA shR ad)) (F0 m 8 ls []) := by
  intro n
  induction n with
  | zero => intro M H locs C x1 x2 ls hl hm; exact absurd hm (by simp [mX8_strides_8])
  | succ n ih =>
    intro M H locs C x1 x2 ls hl hm
    rw [mX8_strides_8] at hm
    refine lv_iload_n S.1 S.2.1 dX8_strides_8 rfl (lv_at hl 2 rfl) ?_
    refine lv_aload_n S.1 S.2.1 dX8_strides_9 rfl (lv_at hl 0 rfl) ?_
    refine g_get (k := 0) (ci := 7) (f := 0) (v := .ref (ad 1))  S C kiX8_strides_X8 kfX8_strides_7 rfl (by decide) shR_0 rfl rfl dX8_strides_10 ?_
    refine lv_iload_n S.1 S.2.1 dX8_strides_13 rfl (lv_at hl 1 rfl) ?_
    obtain ⟨h1, hm⟩ := ck_ok hm
    refine g_iald S C (k := 1) shR_1 h1 dX8_strides_14 ?_
    refine lv_icmp_ge (tgt := 76) S.1 S.2.1 dX8_strides_15 (by decide) (fun c2 => ?_) (fun c2 => ?_)
    · rw [if_pos c2] at hm
      exact gRetv S hr hlk C (Option.some.inj hm) dX8_strides_76
    · rw [if_neg c2] at hm
      refine lv_bipush (v := (64 : Int32)) S.1 S.2.1 dX8_strides_18 (by decide) ?_
      refine lv_iload_n S.1 S.2.1 dX8_strides_20 rfl (lv_at hl 1 rfl) ?_
      refine lv_imul S.1 S.2.1 dX8_strides_21 ?_
      refine lv_iload_n S.1 S.2.1 dX8_strides_22 rfl (lv_at hl 2 rfl) ?_
      refine lv_iadd S.1 S.2.1 dX8_strides_23 ?_
      obtain ⟨y3, ey3, hm⟩ := nmd_ok hm
      refine gNmI ey3 ?_
      refine lv_istore_n (lv' := [(3, .int y3), (0, .ref (ad 0)), (1, .int x1), (2, .int x2)]) S.1 S.2.1 dX8_strides_24 rfl hl (by decide) rfl (fun ls hl => ?_)
      refine lv_bipush (v := (6 : Int32)) S.1 S.2.1 dX8_strides_25 (by decide) ?_
      refine lv_istore (lv' := [(4, .int (6 : Int32)), (3, .int y3), (0, .ref (ad 0)), (1, .int x1), (2, .int x2)]) S.1 S.2.1 dX8_strides_27 hl (by decide) rfl (fun ls hl => ?_)
      exact wX8_strides_29 S hr hlk ih FU M _ _ C x1 x2 y3 (6 : Int32) ls (lv_sub hl [2, 3, 4, 1, 0] rfl) hm
set_option maxHeartbeats 4000000 in
set_option maxRecDepth 100000 in
theorem c_X8_strides (l : Launch) (D : va_G) (cy : gCy) (ad : Nat → Nat) (M : gMem) (x1 : Int32) (r0 : gMem) (hm : mX8_strides M x1 = some r0) : Met l yX8_strides wsX8_strides (gR 1 24) (va_Pc [.ref (ad 0), .int x1] (gP shR D cy ad M)) (gQv shR D cy ad r0) 0 0 (gA shR ad) := by
  refine gEnter (cc := cX8_strides) (maxL := 5) (ret := none) (by decide) rfl (Nat.le_of_ble_eq_true rfl) ?_
  intro p e s m below meth c ls S hr hlk C hl
  have S : CallFix p m c cX8_strides 5 s _ wsX8_strides RX8 := S
  have hl : lv_has ls 5 [(0, .ref (ad 0)), (1, .int x1)] := hl
  rw [mX8_strides] at hm
  refine lv_aload_n S.1 S.2.1 dX8_strides_0 rfl (lv_at hl 0 rfl) ?_
  refine lv_lconst (v := (0 : Int64)) S.1 S.2.1 dX8_strides_1 (by decide) ?_
  refine lv_iconst (v := (0 : Int32)) S.1 S.2.1 dX8_strides_2 (by decide) ?_
  obtain ⟨r1, hcr1, hm⟩ := bd_ok hm
  refine gC_v C (gRV (k := 0) (ci := 7) (r := (RX8, TX8, 34)) (As := [.long (0 : Int64), .int (0 : Int32)]) (rest := []) 2 S C (c_X8_counts l D cy ad M (0 : Int64) (0 : Int32) r1 hcr1) gX8_strides_X8_counts rfl (by decide +kernel) (by decide) shR_0 rfl rfl rfl hl.1 rfl (Nat.le_of_ble_eq_true rfl) dX8_strides_3) (fun H locs C => ?_)
  refine lv_iconst (v := (0 : Int32)) S.1 S.2.1 dX8_strides_6 (by decide) ?_
  refine lv_istore_n (lv' := [(2, .int (0 : Int32)), (0, .ref (ad 0)), (1, .int x1)]) S.1 S.2.1 dX8_strides_7 rfl hl (by decide) rfl (fun ls hl => ?_)
  exact wX8_strides_8 S hr hlk FU r1 _ _ C x1 (0 : Int32) ls (lv_sub hl [1, 2, 0] rfl) hm
def mX8_steps_24 : Nat → gMem → Int32 → Int32 → Int32 → Option (Int32 × gMem)
  | 0, _, _, _, _ => none
  | n + 1, M, x2, x3, x4 => if (M.1 0 31) ≤ x4 then (some (x3, M)) else ((mX8_number x2).bind fun r2 => ck (inb x4 2200) <| ck (inb x4 2200) <| (mX8_begins r2 (M.2 26 x4.toNatClampNeg) (M.1 27 x4.toNatClampNeg)).bind fun r5 => if r5 = 0 then (nmd (x3 + (0 : Int32)) fun y7 => nmd (x4 + (1 : Int32)) fun y8 => mX8_steps_24 n M x2 y7 y8) else (nmd (x3 + (1 : Int32)) fun y9 => nmd (x4 + (1 : Int32)) fun y10 => mX8_steps_24 n M x2 y9 y10))
def mX8_steps (M : gMem) (x1 : Int32) (x2 : Int32) : Option (Int32 × gMem) := (mX8_isBook x1).bind fun r1 => if r1 = 0 then (some ((-1 : Int32), M)) else (nmd (sI M 0 31 (0 : Int32)) fun M3 => (mX8_strides M3 x1).bind fun r4 => mX8_steps_24 FU r4 x2 (0 : Int32) (0 : Int32))
set_option maxHeartbeats 4000000 in
set_option maxRecDepth 100000 in
theorem wX8_steps_24 {p : Program} {l : Launch} {e : Env} {s : State} {m : MethodId} {args : Array Value} {below : List Frame} {meth : Method} {c : Code} {D : va_G} {cy : gCy} {ad : Nat → Nat} {r0 : (Int32 × gMem)} (S : CallFix p m c cX8_steps 5 s args wsX8_steps RX8) (hr : meth.sig.returnType = (some .int)) (hlk : meth.locks = false) : ∀ (n : Nat), ∀ (M : gMem) (H : Heap) (locs : List Loc), gW shR D cy ad s s.heap M H locs → ∀ (x2 : Int32) (x3 : Int32) (x4 : Int32), ∀ (ls : Array Slot), lv_has ls 5 [(0, .ref (ad 0)), (2, .int x2), (3, .int x3), (4, .int x4)] → mX8_steps_24 n M x2 x3 x4 = some r0 → W p l e (gR 2 48) s m args below meth c H locs 0 0 (MQ below (gQi shR D cy ad r0.1 r0.2) args s 0 0 (gA shR ad)) (F0 m 24 ls []) := by
  intro n
  induction n with
  | zero => intro M H locs C x2 x3 x4 ls hl hm; exact absurd hm (by simp [mX8_steps_24])
  | succ n ih =>
    intro M H locs C x2 x3 x4 ls hl hm
    rw [mX8_steps_24] at hm
    refine lv_iload S.1 S.2.1 dX8_steps_24 (lv_at hl 3 rfl) ?_
    refine lv_aload_n S.1 S.2.1 dX8_steps_26 rfl (lv_at hl 0 rfl) ?_
    refine g_get (k := 0) (ci := 7) (f := 31) (v := .int (M.1 0 31))  S C kiX8_steps_X8 kfX8_steps_215 rfl (by decide) shR_0 rfl rfl dX8_steps_27 ?_
    refine lv_icmp_ge (tgt := 71) S.1 S.2.1 dX8_steps_30 (by decide) (fun c1 => ?_) (fun c1 => ?_)
    · rw [if_pos c1] at hm
      refine lv_iload_n S.1 S.2.1 dX8_steps_71 rfl (lv_at hl 2 rfl) ?_
      exact gReti S hr hlk C (pr1 hm) (pr2 hm) dX8_steps_72
    · rw [if_neg c1] at hm
      refine lv_iload_n S.1 S.2.1 dX8_steps_33 rfl (lv_at hl 2 rfl) ?_
      refine lv_iload_n S.1 S.2.1 dX8_steps_34 rfl (lv_at hl 1 rfl) ?_
      obtain ⟨r2, hcr2, hm⟩ := bd_ok hm
      refine gC_l C (gRS (As := [.int x2]) (rest := [.int x3]) 1 S C (c_X8_number l D cy ad M x2 r2 hcr2) gX8_steps_X8_number rfl (by decide +kernel) (by decide) rfl hl.1 rfl (Nat.le_of_ble_eq_true rfl) dX8_steps_35) (fun H locs C => ?_)
      refine lv_aload_n S.1 S.2.1 dX8_steps_38 rfl (lv_at hl 0 rfl) ?_
      refine g_get (k := 0) (ci := 7) (f := 32) (v := .ref (ad 26))  S C kiX8_steps_X8 kfX8_steps_86 rfl (by decide) shR_0 rfl rfl dX8_steps_39 ?_
      refine lv_iload S.1 S.2.1 dX8_steps_42 (lv_at hl 3 rfl) ?_
      obtain ⟨h3, hm⟩ := ck_ok hm
      refine g_lald S C (k := 26) shR_26 h3 dX8_steps_44 ?_
      refine lv_aload_n S.1 S.2.1 dX8_steps_45 rfl (lv_at hl 0 rfl) ?_
      refine g_get (k := 0) (ci := 7) (f := 33) (v := .ref (ad 27))  S C kiX8_steps_X8 kfX8_steps_89 rfl (by decide) shR_0 rfl rfl dX8_steps_46 ?_
      refine lv_iload S.1 S.2.1 dX8_steps_49 (lv_at hl 3 rfl) ?_
      obtain ⟨h4, hm⟩ := ck_ok hm
      refine g_iald S C (k := 27) shR_27 h4 dX8_steps_51 ?_
      obtain ⟨r5, hcr5, hm⟩ := bd_ok hm
      refine gC_i C (gRS (As := [.long r2, .long (M.2 26 x4.toNatClampNeg), .int (M.1 27 x4.toNatClampNeg)]) (rest := [.int x3]) 3 S C (c_X8_begins l D cy ad M r2 (M.2 26 x4.toNatClampNeg) (M.1 27 x4.toNatClampNeg) r5 hcr5) gX8_steps_X8_begins rfl (by decide +kernel) (by decide) rfl hl.1 rfl (Nat.le_of_ble_eq_true rfl) dX8_steps_52) (fun H locs C => ?_)
      refine lv_if_eq (tgt := 62) S.1 S.2.1 dX8_steps_55 (by decide) (fun c6 => ?_) (fun c6 => ?_)
      · rw [if_pos c6] at hm
        refine lv_iconst (v := (0 : Int32)) S.1 S.2.1 dX8_steps_62 (by decide) ?_
        refine lv_iadd S.1 S.2.1 dX8_steps_63 ?_
        obtain ⟨y7, ey7, hm⟩ := nmd_ok hm
        refine gNmI ey7 ?_
        refine lv_istore_n (lv' := [(3, .int y7), (0, .ref (ad 0)), (2, .int x2), (4, .int x4)]) S.1 S.2.1 dX8_steps_64 rfl hl (by decide) rfl (fun ls hl => ?_)
        obtain ⟨y8, ey8, hm⟩ := nmd_ok hm
        refine lv_iinc (v := y8) (lv' := [(4, .int y8), (3, .int y7), (0, .ref (ad 0)), (2, .int x2)]) S.1 S.2.1 dX8_steps_65 hl (k := 3) rfl (by rw [ey8]; rfl) (by decide) rfl (fun ls hl => ?_)
        refine lv_goto (tgt := 24) S.1 S.2.1 dX8_steps_68 (by decide) ?_
        exact ih M _ _ C x2 y7 y8 ls (lv_sub hl [2, 3, 1, 0] rfl) hm
      · rw [if_neg c6] at hm
        refine lv_iconst (v := (1 : Int32)) S.1 S.2.1 dX8_steps_58 (by decide) ?_
        refine lv_goto (tgt := 63) S.1 S.2.1 dX8_steps_59 (by decide) ?_
        refine lv_iadd S.1 S.2.1 dX8_steps_63 ?_
        obtain ⟨y9, ey9, hm⟩ := nmd_ok hm
        refine gNmI ey9 ?_
        refine lv_istore_n (lv' := [(3, .int y9), (0, .ref (ad 0)), (2, .int x2), (4, .int x4)]) S.1 S.2.1 dX8_steps_64 rfl hl (by decide) rfl (fun ls hl => ?_)
        obtain ⟨y10, ey10, hm⟩ := nmd_ok hm
        refine lv_iinc (v := y10) (lv' := [(4, .int y10), (3, .int y9), (0, .ref (ad 0)), (2, .int x2)]) S.1 S.2.1 dX8_steps_65 hl (k := 3) rfl (by rw [ey10]; rfl) (by decide) rfl (fun ls hl => ?_)
        refine lv_goto (tgt := 24) S.1 S.2.1 dX8_steps_68 (by decide) ?_
        exact ih M _ _ C x2 y9 y10 ls (lv_sub hl [2, 3, 1, 0] rfl) hm
set_option maxHeartbeats 4000000 in
set_option maxRecDepth 100000 in
theorem c_X8_steps (l : Launch) (D : va_G) (cy : gCy) (ad : Nat → Nat) (M : gMem) (x1 : Int32) (x2 : Int32) (r0 : (Int32 × gMem)) (hm : mX8_steps M x1 x2 = some r0) : Met l yX8_steps wsX8_steps (gR 2 48) (va_Pc [.ref (ad 0), .int x1, .int x2] (gP shR D cy ad M)) (gQi shR D cy ad r0.1 r0.2) 0 0 (gA shR ad) := by
  refine gEnter (cc := cX8_steps) (maxL := 5) (ret := (some .int)) (by decide) rfl (Nat.le_of_ble_eq_true rfl) ?_
  intro p e s m below meth c ls S hr hlk C hl
  have S : CallFix p m c cX8_steps 5 s _ wsX8_steps RX8 := S
  have hl : lv_has ls 5 [(0, .ref (ad 0)), (1, .int x1), (2, .int x2)] := hl
  rw [mX8_steps] at hm
  refine lv_iload_n S.1 S.2.1 dX8_steps_0 rfl (lv_at hl 1 rfl) ?_
  obtain ⟨r1, hcr1, hm⟩ := bd_ok hm
  refine gC_i C (gRS (As := [.int x1]) (rest := []) 1 S C (c_X8_isBook l D cy ad M x1 r1 hcr1) gX8_steps_X8_isBook rfl (by decide +kernel) (by decide) rfl hl.1 rfl (Nat.le_of_ble_eq_true rfl) dX8_steps_1) (fun H locs C => ?_)
  refine lv_if_ne (tgt := 9) S.1 S.2.1 dX8_steps_4 (by decide) (fun c2 => ?_) (fun c2 => ?_)
  · rw [if_neg c2] at hm
    refine lv_aload_n S.1 S.2.1 dX8_steps_9 rfl (lv_at hl 0 rfl) ?_
    refine lv_iconst (v := (0 : Int32)) S.1 S.2.1 dX8_steps_10 (by decide) ?_
    obtain ⟨M3, eM3, hm⟩ := nmd_ok hm
    refine g_put (M' := (sI M 0 31 (0 : Int32))) (k := 0) (ci := 7) (f := 31) (v := .int (0 : Int32)) (ty := .int) S C kiX8_steps_X8 tyX8 tyX8_ok nmX8 kfX8_steps_215 rfl (by decide) rfl (by decide +kernel) rfl rfl shR_0 rfl (Nat.le_of_ble_eq_true rfl) (by rw [sI_at]; rfl) sI_off dX8_steps_11 (fun H locs C => ?_)
    rw [← eM3] at C
    refine lv_aload_n S.1 S.2.1 dX8_steps_14 rfl (lv_at hl 0 rfl) ?_
    refine lv_iload_n S.1 S.2.1 dX8_steps_15 rfl (lv_at hl 1 rfl) ?_
    obtain ⟨r4, hcr4, hm⟩ := bd_ok hm
    refine gC_v C (gRV (k := 0) (ci := 7) (r := (RX8, TX8, 34)) (As := [.int x1]) (rest := []) 1 S C (c_X8_strides l D cy ad M3 x1 r4 hcr4) gX8_steps_X8_strides rfl (by decide +kernel) (by decide) shR_0 rfl rfl rfl hl.1 rfl (Nat.le_of_ble_eq_true rfl) dX8_steps_16) (fun H locs C => ?_)
    refine lv_iconst (v := (0 : Int32)) S.1 S.2.1 dX8_steps_19 (by decide) ?_
    refine lv_istore_n (lv' := [(3, .int (0 : Int32)), (0, .ref (ad 0)), (1, .int x1), (2, .int x2)]) S.1 S.2.1 dX8_steps_20 rfl hl (by decide) rfl (fun ls hl => ?_)
    refine lv_iconst (v := (0 : Int32)) S.1 S.2.1 dX8_steps_21 (by decide) ?_
    refine lv_istore (lv' := [(4, .int (0 : Int32)), (3, .int (0 : Int32)), (0, .ref (ad 0)), (1, .int x1), (2, .int x2)]) S.1 S.2.1 dX8_steps_22 hl (by decide) rfl (fun ls hl => ?_)
    exact wX8_steps_24 S hr hlk FU r4 _ _ C x2 (0 : Int32) (0 : Int32) ls (lv_sub hl [2, 4, 1, 0] rfl) hm
  · rw [if_pos c2] at hm
    refine lv_iconst (v := (-1 : Int32)) S.1 S.2.1 dX8_steps_7 (by decide) ?_
    exact gReti S hr hlk C (pr1 hm) (pr2 hm) dX8_steps_8
def mX8_nodes_111 (k64 : gMem → Int32 → Int32 → Int64 → Int32 → Option (Int64 × gMem)) (M : gMem) (x2 : Int32) (x6 : Int32) : Option (Int64 × gMem) := ck (inb x6 2200) <| nmd (M.1 27 x6.toNatClampNeg) fun y2 => ck (inb x6 2200) <| nmd (M.2 26 x6.toNatClampNeg) fun y4 => nmd (x6 + (1 : Int32)) fun y5 => k64 M x2 y2 y4 y5
def mX8_nodes_64 : Nat → gMem → Int32 → Int32 → Int64 → Int32 → Option (Int64 × gMem)
  | 0, _, _, _, _, _ => none
  | n + 1, M, x2, x3, x4, x6 => if (M.1 0 31) ≤ x6 then (if x2 = (2 : Int32) then (ck (nz (6 : Int32)) <| some ((((x3 / (6 : Int32)) + (1 : Int32)).toInt64), M)) else (some (x4, M))) else (ck (inb x6 2200) <| if (M.1 27 x6.toNatClampNeg) < x3 then (nmd (x6 + (1 : Int32)) fun y6 => mX8_nodes_64 n M x2 x3 x4 y6) else (ck (inb x6 2200) <| if (M.1 27 x6.toNatClampNeg) = x3 then (ck (inb x6 2200) <| if (M.2 26 x6.toNatClampNeg) < x4 then (mX8_nodes_111 (mX8_nodes_64 n) M x2 x6) else (nmd (x6 + (1 : Int32)) fun y11 => mX8_nodes_64 n M x2 x3 x4 y11)) else (mX8_nodes_111 (mX8_nodes_64 n) M x2 x6)))
def mX8_nodes (M : gMem) (x1 : Int32) (x2 : Int32) : Option (Int64 × gMem) := (mX8_isBook x1).bind fun r1 => if r1 = 0 then (some ((-1 : Int64), M)) else ((mX8_lies x2 (0 : Int32) (3 : Int32)).bind fun r3 => if r3 = 0 then (some ((-1 : Int64), M)) else (nmd (sI M 0 31 (0 : Int32)) fun M5 => if x2 = 0 then ((mX8_pressed M5 x1).bind fun r9 => some (((r9.1 0 31).toInt64), r9)) else ((mX8_strides M5 x1).bind fun r7 => if x2 = (1 : Int32) then (some (((r7.1 0 31).toInt64), r7)) else (mX8_nodes_64 FU r7 x2 (0 : Int32) (0 : Int64) (0 : Int32)))))
set_option maxHeartbeats 4000000 in
set_option maxRecDepth 100000 in
theorem wX8_nodes_111 {p : Program} {l : Launch} {e : Env} {s : State} {m : MethodId} {args : Array Value} {below : List Frame} {meth : Method} {c : Code} {D : va_G} {cy : gCy} {ad : Nat → Nat} {r0 : (Int64 × gMem)} (S : CallFix p m c cX8_nodes 7 s args wsX8_nodes RX8) (hr : meth.sig.returnType = (some .long)) (hlk : meth.locks = false) {k64 : gMem → Int32 → Int32 → Int64 → Int32 → Option (Int64 × gMem)} (kk64 : ∀ (M : gMem) (H : Heap) (locs : List Loc), gW shR D cy ad s s.heap M H locs → ∀ (x2 : Int32) (x3 : Int32) (x4 : Int64) (x6 : Int32), ∀ (ls : Array Slot), lv_has ls 7 [(0, .ref (ad 0)), (2, .int x2), (3, .int x3), (4, .long x4), (6, .int x6)] → k64 M x2 x3 x4 x6 = some r0 → W p l e (gR 3 70) s m args below meth c H locs 0 0 (MQ below (gQl shR D cy ad r0.1 r0.2) args s 0 0 (gA shR ad)) (F0 m 64 ls [])) : ∀ (M : gMem) (H : Heap) (locs : List Loc), gW shR D cy ad s s.heap M H locs → ∀ (x2 : Int32) (x6 : Int32), ∀ (ls : Array Slot), lv_has ls 7 [(0, .ref (ad 0)), (2, .int x2), (6, .int x6)] → mX8_nodes_111 k64 M x2 x6 = some r0 → W p l e (gR 3 70) s m args below meth c H locs 0 0 (MQ below (gQl shR D cy ad r0.1 r0.2) args s 0 0 (gA shR ad)) (F0 m 111 ls []) := by
  intro M H locs C x2 x6 ls hl hm
  rw [mX8_nodes_111] at hm
  refine lv_aload_n S.1 S.2.1 dX8_nodes_111 rfl (lv_at hl 0 rfl) ?_
  refine g_get (k := 0) (ci := 7) (f := 33) (v := .ref (ad 27))  S C kiX8_nodes_X8 kfX8_nodes_89 rfl (by decide) shR_0 rfl rfl dX8_nodes_112 ?_
  refine lv_iload S.1 S.2.1 dX8_nodes_115 (lv_at hl 2 rfl) ?_
  obtain ⟨h1, hm⟩ := ck_ok hm
  refine g_iald S C (k := 27) shR_27 h1 dX8_nodes_117 ?_
  obtain ⟨y2, ey2, hm⟩ := nmd_ok hm
  refine gNmI ey2 ?_
  refine lv_istore_n (lv' := [(3, .int y2), (0, .ref (ad 0)), (2, .int x2), (6, .int x6)]) S.1 S.2.1 dX8_nodes_118 rfl hl (by decide) rfl (fun ls hl => ?_)
  refine lv_aload_n S.1 S.2.1 dX8_nodes_119 rfl (lv_at hl 1 rfl) ?_
  refine g_get (k := 0) (ci := 7) (f := 32) (v := .ref (ad 26))  S C kiX8_nodes_X8 kfX8_nodes_86 rfl (by decide) shR_0 rfl rfl dX8_nodes_120 ?_
  refine lv_iload S.1 S.2.1 dX8_nodes_123 (lv_at hl 3 rfl) ?_
  obtain ⟨h3, hm⟩ := ck_ok hm
  refine g_lald S C (k := 26) shR_26 h3 dX8_nodes_125 ?_
  obtain ⟨y4, ey4, hm⟩ := nmd_ok hm
  refine gNmJ ey4 ?_
  refine lv_lstore (lv' := [(4, .long y4), (3, .int y2), (0, .ref (ad 0)), (2, .int x2), (6, .int x6)]) S.1 S.2.1 dX8_nodes_126 hl (by decide) rfl (fun ls hl => ?_)
  obtain ⟨y5, ey5, hm⟩ := nmd_ok hm
  refine lv_iinc (v := y5) (lv' := [(6, .int y5), (4, .long y4), (3, .int y2), (0, .ref (ad 0)), (2, .int x2)]) S.1 S.2.1 dX8_nodes_128 hl (k := 4) rfl (by rw [ey5]; rfl) (by decide) rfl (fun ls hl => ?_)
  refine lv_goto (tgt := 64) S.1 S.2.1 dX8_nodes_131 (by decide) ?_
  exact kk64 M _ _ C x2 y2 y4 y5 ls (lv_sub hl [3, 4, 2, 1, 0] rfl) hm
set_option maxHeartbeats 4000000 in
set_option maxRecDepth 100000 in
theorem wX8_nodes_64 {p : Program} {l : Launch} {e : Env} {s : State} {m : MethodId} {args : Array Value} {below : List Frame} {meth : Method} {c : Code} {D : va_G} {cy : gCy} {ad : Nat → Nat} {r0 : (Int64 × gMem)} (S : CallFix p m c cX8_nodes 7 s args wsX8_nodes RX8) (hr : meth.sig.returnType = (some .long)) (hlk : meth.locks = false) : ∀ (n : Nat), ∀ (M : gMem) (H : Heap) (locs : List Loc), gW shR D cy ad s s.heap M H locs → ∀ (x2 : Int32) (x3 : Int32) (x4 : Int64) (x6 : Int32), ∀ (ls : Array Slot), lv_has ls 7 [(0, .ref (ad 0)), (2, .int x2), (3, .int x3), (4, .long x4), (6, .int x6)] → mX8_nodes_64 n M x2 x3 x4 x6 = some r0 → W p l e (gR 3 70) s m args below meth c H locs 0 0 (MQ below (gQl shR D cy ad r0.1 r0.2) args s 0 0 (gA shR ad)) (F0 m 64 ls []) := by
  intro n
  induction n with
  | zero => intro M H locs C x2 x3 x4 x6 ls hl hm; exact absurd hm (by simp [mX8_nodes_64])
  | succ n ih =>
    intro M H locs C x2 x3 x4 x6 ls hl hm
    rw [mX8_nodes_64] at hm
    refine lv_iload S.1 S.2.1 dX8_nodes_64 (lv_at hl 4 rfl) ?_
    refine lv_aload_n S.1 S.2.1 dX8_nodes_66 rfl (lv_at hl 0 rfl) ?_
    refine g_get (k := 0) (ci := 7) (f := 31) (v := .int (M.1 0 31))  S C kiX8_nodes_X8 kfX8_nodes_215 rfl (by decide) shR_0 rfl rfl dX8_nodes_67 ?_
    refine lv_icmp_ge (tgt := 134) S.1 S.2.1 dX8_nodes_70 (by decide) (fun c1 => ?_) (fun c1 => ?_)
    · rw [if_pos c1] at hm
      refine lv_iload_n S.1 S.2.1 dX8_nodes_134 rfl (lv_at hl 1 rfl) ?_
      refine lv_iconst (v := (2 : Int32)) S.1 S.2.1 dX8_nodes_135 (by decide) ?_
      refine lv_icmp_ne (tgt := 149) S.1 S.2.1 dX8_nodes_136 (by decide) (fun c2 => ?_) (fun c2 => ?_)
      · rw [if_neg c2] at hm
        refine lv_lload S.1 S.2.1 dX8_nodes_149 (lv_at hl 3 rfl) ?_
        exact gRetl S hr hlk C (pr1 hm) (pr2 hm) dX8_nodes_151
      · rw [if_pos c2] at hm
        refine lv_iload_n S.1 S.2.1 dX8_nodes_139 rfl (lv_at hl 2 rfl) ?_
        refine lv_bipush (v := (6 : Int32)) S.1 S.2.1 dX8_nodes_140 (by decide) ?_
        obtain ⟨h3, hm⟩ := ck_ok hm
        refine lv_idiv S.1 S.2.1 dX8_nodes_142 (nz_ok h3) ?_
        refine lv_iconst (v := (1 : Int32)) S.1 S.2.1 dX8_nodes_143 (by decide) ?_
        refine lv_iadd S.1 S.2.1 dX8_nodes_144 ?_
        refine lv_i2l (v := ((x3 / (6 : Int32)) + (1 : Int32)).toInt64) S.1 S.2.1 dX8_nodes_145 rfl ?_
        refine lv_goto (tgt := 151) S.1 S.2.1 dX8_nodes_146 (by decide) ?_
        exact gRetl S hr hlk C (pr1 hm) (pr2 hm) dX8_nodes_151
    · rw [if_neg c1] at hm
      refine lv_aload_n S.1 S.2.1 dX8_nodes_73 rfl (lv_at hl 0 rfl) ?_
      refine g_get (k := 0) (ci := 7) (f := 33) (v := .ref (ad 27))  S C kiX8_nodes_X8 kfX8_nodes_89 rfl (by decide) shR_0 rfl rfl dX8_nodes_74 ?_
      refine lv_iload S.1 S.2.1 dX8_nodes_77 (lv_at hl 4 rfl) ?_
      obtain ⟨h4, hm⟩ := ck_ok hm
      refine g_iald S C (k := 27) shR_27 h4 dX8_nodes_79 ?_
      refine lv_iload_n S.1 S.2.1 dX8_nodes_80 rfl (lv_at hl 2 rfl) ?_
      refine lv_icmp_lt (tgt := 128) S.1 S.2.1 dX8_nodes_81 (by decide) (fun c5 => ?_) (fun c5 => ?_)
      · rw [if_pos c5] at hm
        obtain ⟨y6, ey6, hm⟩ := nmd_ok hm
        refine lv_iinc (v := y6) (lv' := [(6, .int y6), (0, .ref (ad 0)), (2, .int x2), (3, .int x3), (4, .long x4)]) S.1 S.2.1 dX8_nodes_128 hl (k := 4) rfl (by rw [ey6]; rfl) (by decide) rfl (fun ls hl => ?_)
        refine lv_goto (tgt := 64) S.1 S.2.1 dX8_nodes_131 (by decide) ?_
        exact ih M _ _ C x2 x3 x4 y6 ls (lv_sub hl [1, 2, 3, 4, 0] rfl) hm
      · rw [if_neg c5] at hm
        refine lv_aload_n S.1 S.2.1 dX8_nodes_84 rfl (lv_at hl 0 rfl) ?_
        refine g_get (k := 0) (ci := 7) (f := 33) (v := .ref (ad 27))  S C kiX8_nodes_X8 kfX8_nodes_89 rfl (by decide) shR_0 rfl rfl dX8_nodes_85 ?_
        refine lv_iload S.1 S.2.1 dX8_nodes_88 (lv_at hl 4 rfl) ?_
        obtain ⟨h7, hm⟩ := ck_ok hm
        refine g_iald S C (k := 27) shR_27 h7 dX8_nodes_90 ?_
        refine lv_iload_n S.1 S.2.1 dX8_nodes_91 rfl (lv_at hl 2 rfl) ?_
        refine lv_icmp_ne (tgt := 111) S.1 S.2.1 dX8_nodes_92 (by decide) (fun c8 => ?_) (fun c8 => ?_)
        · rw [if_neg c8] at hm
          exact wX8_nodes_111 S hr hlk ih M _ _ C x2 x6 ls (lv_sub hl [0, 1, 4] rfl) hm
        · rw [if_pos c8] at hm
          refine lv_aload_n S.1 S.2.1 dX8_nodes_95 rfl (lv_at hl 0 rfl) ?_
          refine g_get (k := 0) (ci := 7) (f := 32) (v := .ref (ad 26))  S C kiX8_nodes_X8 kfX8_nodes_86 rfl (by decide) shR_0 rfl rfl dX8_nodes_96 ?_
          refine lv_iload S.1 S.2.1 dX8_nodes_99 (lv_at hl 4 rfl) ?_
          obtain ⟨h9, hm⟩ := ck_ok hm
          refine g_lald S C (k := 26) shR_26 h9 dX8_nodes_101 ?_
          refine lv_lload S.1 S.2.1 dX8_nodes_102 (lv_at hl 3 rfl) ?_
          refine W.lcmp S.1 S.2.1 dX8_nodes_104 ?_
          refine lv_if_lt (tgt := 111) S.1 S.2.1 dX8_nodes_105 (by decide) (fun c10 => ?_) (fun c10 => ?_)
          · rw [if_pos (cmp_lt.mp c10)] at hm
            exact wX8_nodes_111 S hr hlk ih M _ _ C x2 x6 ls (lv_sub hl [0, 1, 4] rfl) hm
          · rw [if_neg (fun q => c10 (cmp_lt.mpr q))] at hm
            refine lv_goto (tgt := 128) S.1 S.2.1 dX8_nodes_108 (by decide) ?_
            obtain ⟨y11, ey11, hm⟩ := nmd_ok hm
            refine lv_iinc (v := y11) (lv' := [(6, .int y11), (0, .ref (ad 0)), (2, .int x2), (3, .int x3), (4, .long x4)]) S.1 S.2.1 dX8_nodes_128 hl (k := 4) rfl (by rw [ey11]; rfl) (by decide) rfl (fun ls hl => ?_)
            refine lv_goto (tgt := 64) S.1 S.2.1 dX8_nodes_131 (by decide) ?_
            exact ih M _ _ C x2 x3 x4 y11 ls (lv_sub hl [1, 2, 3, 4, 0] rfl) hm
set_option maxHeartbeats 4000000 in
set_option maxRecDepth 100000 in
theorem c_X8_nodes (l : Launch) (D : va_G) (cy : gCy) (ad : Nat → Nat) (M : gMem) (x1 : Int32) (x2 : Int32) (r0 : (Int64 × gMem)) (hm : mX8_nodes M x1 x2 = some r0) : Met l yX8_nodes wsX8_nodes (gR 3 70) (va_Pc [.ref (ad 0), .int x1, .int x2] (gP shR D cy ad M)) (gQl shR D cy ad r0.1 r0.2) 0 0 (gA shR ad) := by
  refine gEnter (cc := cX8_nodes) (maxL := 7) (ret := (some .long)) (by decide) rfl (Nat.le_of_ble_eq_true rfl) ?_
  intro p e s m below meth c ls S hr hlk C hl
  have S : CallFix p m c cX8_nodes 7 s _ wsX8_nodes RX8 := S
  have hl : lv_has ls 7 [(0, .ref (ad 0)), (1, .int x1), (2, .int x2)] := hl
  rw [mX8_nodes] at hm
  refine lv_iload_n S.1 S.2.1 dX8_nodes_0 rfl (lv_at hl 1 rfl) ?_
  obtain ⟨r1, hcr1, hm⟩ := bd_ok hm
  refine gC_i C (gRS (As := [.int x1]) (rest := []) 1 S C (c_X8_isBook l D cy ad M x1 r1 hcr1) gX8_nodes_X8_isBook rfl (by decide +kernel) (by decide) rfl hl.1 rfl (Nat.le_of_ble_eq_true rfl) dX8_nodes_1) (fun H locs C => ?_)
  refine lv_if_eq (tgt := 16) S.1 S.2.1 dX8_nodes_4 (by decide) (fun c2 => ?_) (fun c2 => ?_)
  · rw [if_pos c2] at hm
    refine lv_ldc2 (v := (-1 : Int64)) S.1 S.2.1 S.2.2.2.1 (S.2.2.2.2 _ kcX8_nodes_124) dX8_nodes_16 ?_
    exact gRetl S hr hlk C (pr1 hm) (pr2 hm) dX8_nodes_19
  · rw [if_neg c2] at hm
    refine lv_iload_n S.1 S.2.1 dX8_nodes_7 rfl (lv_at hl 2 rfl) ?_
    refine lv_iconst (v := (0 : Int32)) S.1 S.2.1 dX8_nodes_8 (by decide) ?_
    refine lv_iconst (v := (3 : Int32)) S.1 S.2.1 dX8_nodes_9 (by decide) ?_
    obtain ⟨r3, hcr3, hm⟩ := bd_ok hm
    refine gC_i C (gRS (As := [.int x2, .int (0 : Int32), .int (3 : Int32)]) (rest := []) 3 S C (c_X8_lies l D cy ad M x2 (0 : Int32) (3 : Int32) r3 hcr3) gX8_nodes_X8_lies rfl (by decide +kernel) (by decide) rfl hl.1 rfl (Nat.le_of_ble_eq_true rfl) dX8_nodes_10) (fun H locs C => ?_)
    refine lv_if_ne (tgt := 20) S.1 S.2.1 dX8_nodes_13 (by decide) (fun c4 => ?_) (fun c4 => ?_)
    · rw [if_neg c4] at hm
      refine lv_aload_n S.1 S.2.1 dX8_nodes_20 rfl (lv_at hl 0 rfl) ?_
      refine lv_iconst (v := (0 : Int32)) S.1 S.2.1 dX8_nodes_21 (by decide) ?_
      obtain ⟨M5, eM5, hm⟩ := nmd_ok hm
      refine g_put (M' := (sI M 0 31 (0 : Int32))) (k := 0) (ci := 7) (f := 31) (v := .int (0 : Int32)) (ty := .int) S C kiX8_nodes_X8 tyX8 tyX8_ok nmX8 kfX8_nodes_215 rfl (by decide) rfl (by decide +kernel) rfl rfl shR_0 rfl (Nat.le_of_ble_eq_true rfl) (by rw [sI_at]; rfl) sI_off dX8_nodes_22 (fun H locs C => ?_)
      rw [← eM5] at C
      refine lv_iload_n S.1 S.2.1 dX8_nodes_25 rfl (lv_at hl 2 rfl) ?_
      refine lv_if_ne (tgt := 40) S.1 S.2.1 dX8_nodes_26 (by decide) (fun c6 => ?_) (fun c6 => ?_)
      · rw [if_neg c6] at hm
        refine lv_aload_n S.1 S.2.1 dX8_nodes_40 rfl (lv_at hl 0 rfl) ?_
        refine lv_iload_n S.1 S.2.1 dX8_nodes_41 rfl (lv_at hl 1 rfl) ?_
        obtain ⟨r7, hcr7, hm⟩ := bd_ok hm
        refine gC_v C (gRV (k := 0) (ci := 7) (r := (RX8, TX8, 34)) (As := [.int x1]) (rest := []) 1 S C (c_X8_strides l D cy ad M5 x1 r7 hcr7) gX8_nodes_X8_strides rfl (by decide +kernel) (by decide) shR_0 rfl rfl rfl hl.1 rfl (Nat.le_of_ble_eq_true rfl) dX8_nodes_42) (fun H locs C => ?_)
        refine lv_iload_n S.1 S.2.1 dX8_nodes_45 rfl (lv_at hl 2 rfl) ?_
        refine lv_iconst (v := (1 : Int32)) S.1 S.2.1 dX8_nodes_46 (by decide) ?_
        refine lv_icmp_ne (tgt := 56) S.1 S.2.1 dX8_nodes_47 (by decide) (fun c8 => ?_) (fun c8 => ?_)
        · rw [if_neg c8] at hm
          refine lv_iconst (v := (0 : Int32)) S.1 S.2.1 dX8_nodes_56 (by decide) ?_
          refine lv_istore_n (lv' := [(3, .int (0 : Int32)), (0, .ref (ad 0)), (1, .int x1), (2, .int x2)]) S.1 S.2.1 dX8_nodes_57 rfl hl (by decide) rfl (fun ls hl => ?_)
          refine lv_lconst (v := (0 : Int64)) S.1 S.2.1 dX8_nodes_58 (by decide) ?_
          refine lv_lstore (lv' := [(4, .long (0 : Int64)), (3, .int (0 : Int32)), (0, .ref (ad 0)), (1, .int x1), (2, .int x2)]) S.1 S.2.1 dX8_nodes_59 hl (by decide) rfl (fun ls hl => ?_)
          refine lv_iconst (v := (0 : Int32)) S.1 S.2.1 dX8_nodes_61 (by decide) ?_
          refine lv_istore (lv' := [(6, .int (0 : Int32)), (4, .long (0 : Int64)), (3, .int (0 : Int32)), (0, .ref (ad 0)), (1, .int x1), (2, .int x2)]) S.1 S.2.1 dX8_nodes_62 hl (by decide) rfl (fun ls hl => ?_)
          exact wX8_nodes_64 S hr hlk FU r7 _ _ C x2 (0 : Int32) (0 : Int64) (0 : Int32) ls (lv_sub hl [3, 5, 2, 1, 0] rfl) hm
        · rw [if_pos c8] at hm
          refine lv_aload_n S.1 S.2.1 dX8_nodes_50 rfl (lv_at hl 0 rfl) ?_
          refine g_get (k := 0) (ci := 7) (f := 31) (v := .int (r7.1 0 31))  S C kiX8_nodes_X8 kfX8_nodes_215 rfl (by decide) shR_0 rfl rfl dX8_nodes_51 ?_
          refine lv_i2l (v := (r7.1 0 31).toInt64) S.1 S.2.1 dX8_nodes_54 rfl ?_
          exact gRetl S hr hlk C (pr1 hm) (pr2 hm) dX8_nodes_55
      · rw [if_pos c6] at hm
        refine lv_aload_n S.1 S.2.1 dX8_nodes_29 rfl (lv_at hl 0 rfl) ?_
        refine lv_iload_n S.1 S.2.1 dX8_nodes_30 rfl (lv_at hl 1 rfl) ?_
        obtain ⟨r9, hcr9, hm⟩ := bd_ok hm
        refine gC_v C (gRV (k := 0) (ci := 7) (r := (RX8, TX8, 34)) (As := [.int x1]) (rest := []) 1 S C (c_X8_pressed l D cy ad M5 x1 r9 hcr9) gX8_nodes_X8_pressed rfl (by decide +kernel) (by decide) shR_0 rfl rfl rfl hl.1 rfl (Nat.le_of_ble_eq_true rfl) dX8_nodes_31) (fun H locs C => ?_)
        refine lv_aload_n S.1 S.2.1 dX8_nodes_34 rfl (lv_at hl 0 rfl) ?_
        refine g_get (k := 0) (ci := 7) (f := 31) (v := .int (r9.1 0 31))  S C kiX8_nodes_X8 kfX8_nodes_215 rfl (by decide) shR_0 rfl rfl dX8_nodes_35 ?_
        refine lv_i2l (v := (r9.1 0 31).toInt64) S.1 S.2.1 dX8_nodes_38 rfl ?_
        exact gRetl S hr hlk C (pr1 hm) (pr2 hm) dX8_nodes_39
    · rw [if_pos c4] at hm
      refine lv_ldc2 (v := (-1 : Int64)) S.1 S.2.1 S.2.2.2.1 (S.2.2.2.2 _ kcX8_nodes_124) dX8_nodes_16 ?_
      exact gRetl S hr hlk C (pr1 hm) (pr2 hm) dX8_nodes_19
