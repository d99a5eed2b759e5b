theorem kcJ6_numberOfLeadingZeros_0f7a4_264 : Cond.constant RJ6 264 (65536 : Int32) ∈ wsJ6_numberOfLeadingZeros_0f7a4 := by decide +kernel
theorem kcJ6_numberOfTrailingZeros_0f7a4_264 : Cond.constant RJ6 264 (65536 : Int32) ∈ wsJ6_numberOfTrailingZeros_0f7a4 := by decide +kernel
def mJ6_numberOfLeadingZeros_0f7a4_61 (x0 : Int32) (x1 : Int32) : Option Int32 := if x0 < (4 : Int32) then (some (x1 - (ush x0 (1 : Int32)))) else (nmd (x1 + (-2 : Int32)) fun y2 => nmd (ush x0 (2 : Int32)) fun y3 => some (y2 - (ush y3 (1 : Int32))))
def mJ6_numberOfLeadingZeros_0f7a4_48 (x0 : Int32) (x1 : Int32) : Option Int32 := if x0 < (16 : Int32) then (mJ6_numberOfLeadingZeros_0f7a4_61 x0 x1) else (nmd (x1 + (-4 : Int32)) fun y2 => nmd (ush x0 (4 : Int32)) fun y3 => mJ6_numberOfLeadingZeros_0f7a4_61 y3 y2)
def mJ6_numberOfLeadingZeros_0f7a4_33 (x0 : Int32) (x1 : Int32) : Option Int32 := if x0 < (256 : Int32) then (mJ6_numberOfLeadingZeros_0f7a4_48 x0 x1) else (nmd (x1 + (-8 : Int32)) fun y2 => nmd (ush x0 (8 : Int32)) fun y3 => mJ6_numberOfLeadingZeros_0f7a4_48 y3 y2)
def mJ6_numberOfLeadingZeros_0f7a4 (x0 : Int32) : Option Int32 := if 0 < x0 then (if x0 < (65536 : Int32) then (mJ6_numberOfLeadingZeros_0f7a4_33 x0 (31 : Int32)) else (nmd ((31 : Int32) + (-16 : Int32)) fun y3 => nmd (ush x0 (16 : Int32)) fun y4 => mJ6_numberOfLeadingZeros_0f7a4_33 y4 y3)) else (if x0 = 0 then (some (32 : Int32)) else (some (0 : Int32)))
set_option maxHeartbeats 4000000 in
set_option maxRecDepth 100000 in
theorem wJ6_numberOfLeadingZeros_0f7a4_61 {p : Program} {l : Launch} {e : Env} {s : State} {m : MethodId} {args : Array Value} {below : List Frame} {meth : Method} {c : Code} {D : va_G} {cy : gCy} {ad : Nat → Nat} {sh : gSh} {M : gMem} {r0 : Int32} (S : CallFix p m c cJ6_numberOfLeadingZeros_0f7a4 2 s args wsJ6_numberOfLeadingZeros_0f7a4 RJ6) (hr : meth.sig.returnType = (some .int)) (hlk : meth.locks = false) : ∀ (H : Heap) (locs : List Loc), gW sh D cy ad s s.heap M H locs → ∀ (x0 : Int32) (x1 : Int32), ∀ (ls : Array Slot), lv_has ls 2 [(0, .int x0), (1, .int x1)] → mJ6_numberOfLeadingZeros_0f7a4_61 x0 x1 = some r0 → W p l e (gR 0 0) s m args below meth c H locs 0 0 (MQ below (gQi sh D cy ad r0 M) args s 0 0 (gA sh ad)) (F0 m 61 ls []) := by
  intro H locs C x0 x1 ls hl hm
  rw [mJ6_numberOfLeadingZeros_0f7a4_61] at hm
  refine lv_iload_n S.1 S.2.1 dJ6_numberOfLeadingZeros_0f7a4_61 rfl (lv_at hl 0 rfl) ?_
  refine lv_iconst (v := (4 : Int32)) S.1 S.2.1 dJ6_numberOfLeadingZeros_0f7a4_62 (by decide) ?_
  refine lv_icmp_lt (tgt := 73) S.1 S.2.1 dJ6_numberOfLeadingZeros_0f7a4_63 (by decide) (fun c1 => ?_) (fun c1 => ?_)
  · rw [if_pos c1] at hm
    refine lv_iload_n S.1 S.2.1 dJ6_numberOfLeadingZeros_0f7a4_73 rfl (lv_at hl 1 rfl) ?_
    refine lv_iload_n S.1 S.2.1 dJ6_numberOfLeadingZeros_0f7a4_74 rfl (lv_at hl 0 rfl) ?_
    refine lv_iconst (v := (1 : Int32)) S.1 S.2.1 dJ6_numberOfLeadingZeros_0f7a4_75 (by decide) ?_
    refine lv_iushr (v := (ush x0 (1 : Int32))) S.1 S.2.1 dJ6_numberOfLeadingZeros_0f7a4_76 rfl ?_
    refine lv_isub S.1 S.2.1 dJ6_numberOfLeadingZeros_0f7a4_77 ?_
    exact gReti S hr hlk C (Option.some.inj hm) rfl dJ6_numberOfLeadingZeros_0f7a4_78
  · rw [if_neg c1] at hm
    obtain ⟨y2, ey2, hm⟩ := nmd_ok hm
    refine lv_iinc (v := y2) (lv' := [(1, .int y2), (0, .int x0)]) S.1 S.2.1 dJ6_numberOfLeadingZeros_0f7a4_66 hl (k := 1) rfl (by rw [ey2]; rfl) (by decide) rfl (fun ls hl => ?_)
    refine lv_iload_n S.1 S.2.1 dJ6_numberOfLeadingZeros_0f7a4_69 rfl (lv_at hl 1 rfl) ?_
    refine lv_iconst (v := (2 : Int32)) S.1 S.2.1 dJ6_numberOfLeadingZeros_0f7a4_70 (by decide) ?_
    refine lv_iushr (v := (ush x0 (2 : Int32))) S.1 S.2.1 dJ6_numberOfLeadingZeros_0f7a4_71 rfl ?_
    obtain ⟨y3, ey3, hm⟩ := nmd_ok hm
    refine gNmI ey3 ?_
    refine lv_istore_n (lv' := [(0, .int y3), (1, .int y2)]) S.1 S.2.1 dJ6_numberOfLeadingZeros_0f7a4_72 rfl hl (by decide) rfl (fun ls hl => ?_)
    refine lv_iload_n S.1 S.2.1 dJ6_numberOfLeadingZeros_0f7a4_73 rfl (lv_at hl 1 rfl) ?_
    refine lv_iload_n S.1 S.2.1 dJ6_numberOfLeadingZeros_0f7a4_74 rfl (lv_at hl 0 rfl) ?_
    refine lv_iconst (v := (1 : Int32)) S.1 S.2.1 dJ6_numberOfLeadingZeros_0f7a4_75 (by decide) ?_
    refine lv_iushr (v := (ush y3 (1 : Int32))) S.1 S.2.1 dJ6_numberOfLeadingZeros_0f7a4_76 rfl ?_
    refine lv_isub S.1 S.2.1 dJ6_numberOfLeadingZeros_0f7a4_77 ?_
    exact gReti S hr hlk C (Option.some.inj hm) rfl dJ6_numberOfLeadingZeros_0f7a4_78
set_option maxHeartbeats 4000000 in
set_option maxRecDepth 100000 in
theorem wJ6_numberOfLeadingZeros_0f7a4_48 {p : Program} {l : Launch} {e : Env} {s : State} {m : MethodId} {args : Array Value} {below : List Frame} {meth : Method} {c : Code} {D : va_G} {cy : gCy} {ad : Nat → Nat} {sh : gSh} {M : gMem} {r0 : Int32} (S : CallFix p m c cJ6_numberOfLeadingZeros_0f7a4 2 s args wsJ6_numberOfLeadingZeros_0f7a4 RJ6) (hr : meth.sig.returnType = (some .int)) (hlk : meth.locks = false) : ∀ (H : Heap) (locs : List Loc), gW sh D cy ad s s.heap M H locs → ∀ (x0 : Int32) (x1 : Int32), ∀ (ls : Array Slot), lv_has ls 2 [(0, .int x0), (1, .int x1)] → mJ6_numberOfLeadingZeros_0f7a4_48 x0 x1 = some r0 → W p l e (gR 0 0) s m args below meth c H locs 0 0 (MQ below (gQi sh D cy ad r0 M) args s 0 0 (gA sh ad)) (F0 m 48 ls []) := by
  intro H locs C x0 x1 ls hl hm
  rw [mJ6_numberOfLeadingZeros_0f7a4_48] at hm
  refine lv_iload_n S.1 S.2.1 dJ6_numberOfLeadingZeros_0f7a4_48 rfl (lv_at hl 0 rfl) ?_
  refine lv_bipush (v := (16 : Int32)) S.1 S.2.1 dJ6_numberOfLeadingZeros_0f7a4_49 (by decide) ?_
  refine lv_icmp_lt (tgt := 61) S.1 S.2.1 dJ6_numberOfLeadingZeros_0f7a4_51 (by decide) (fun c1 => ?_) (fun c1 => ?_)
  · rw [if_pos c1] at hm
    exact wJ6_numberOfLeadingZeros_0f7a4_61 S hr hlk _ _ C x0 x1 ls (lv_sub hl [0, 1] rfl) hm
  · rw [if_neg c1] at hm
    obtain ⟨y2, ey2, hm⟩ := nmd_ok hm
    refine lv_iinc (v := y2) (lv' := [(1, .int y2), (0, .int x0)]) S.1 S.2.1 dJ6_numberOfLeadingZeros_0f7a4_54 hl (k := 1) rfl (by rw [ey2]; rfl) (by decide) rfl (fun ls hl => ?_)
    refine lv_iload_n S.1 S.2.1 dJ6_numberOfLeadingZeros_0f7a4_57 rfl (lv_at hl 1 rfl) ?_
    refine lv_iconst (v := (4 : Int32)) S.1 S.2.1 dJ6_numberOfLeadingZeros_0f7a4_58 (by decide) ?_
    refine lv_iushr (v := (ush x0 (4 : Int32))) S.1 S.2.1 dJ6_numberOfLeadingZeros_0f7a4_59 rfl ?_
    obtain ⟨y3, ey3, hm⟩ := nmd_ok hm
    refine gNmI ey3 ?_
    refine lv_istore_n (lv' := [(0, .int y3), (1, .int y2)]) S.1 S.2.1 dJ6_numberOfLeadingZeros_0f7a4_60 rfl hl (by decide) rfl (fun ls hl => ?_)
    exact wJ6_numberOfLeadingZeros_0f7a4_61 S hr hlk _ _ C y3 y2 ls (lv_sub hl [0, 1] rfl) hm
set_option maxHeartbeats 4000000 in
set_option maxRecDepth 100000 in
theorem wJ6_numberOfLeadingZeros_0f7a4_33 {p : Program} {l : Launch} {e : Env} {s : State} {m : MethodId} {args : Array Value} {below : List Frame} {meth : Method} {c : Code} {D : va_G} {cy : gCy} {ad : Nat → Nat} {sh : gSh} {M : gMem} {r0 : Int32} (S : CallFix p m c cJ6_numberOfLeadingZeros_0f7a4 2 s args wsJ6_numberOfLeadingZeros_0f7a4 RJ6) (hr : meth.sig.returnType = (some .int)) (hlk : meth.locks = false) : ∀ (H : Heap) (locs : List Loc), gW sh D cy ad s s.heap M H locs → ∀ (x0 : Int32) (x1 : Int32), ∀ (ls : Array Slot), lv_has ls 2 [(0, .int x0), (1, .int x1)] → mJ6_numberOfLeadingZeros_0f7a4_33 x0 x1 = some r0 → W p l e (gR 0 0) s m args below meth c H locs 0 0 (MQ below (gQi sh D cy ad r0 M) args s 0 0 (gA sh ad)) (F0 m 33 ls []) := by
  intro H locs C x0 x1 ls hl hm
  rw [mJ6_numberOfLeadingZeros_0f7a4_33] at hm
  refine lv_iload_n S.1 S.2.1 dJ6_numberOfLeadingZeros_0f7a4_33 rfl (lv_at hl 0 rfl) ?_
  refine lv_sipush (v := (256 : Int32)) S.1 S.2.1 dJ6_numberOfLeadingZeros_0f7a4_34 (by decide) ?_
  refine lv_icmp_lt (tgt := 48) S.1 S.2.1 dJ6_numberOfLeadingZeros_0f7a4_37 (by decide) (fun c1 => ?_) (fun c1 => ?_)
  · rw [if_pos c1] at hm
    exact wJ6_numberOfLeadingZeros_0f7a4_48 S hr hlk _ _ C x0 x1 ls (lv_sub hl [0, 1] rfl) hm
  · rw [if_neg c1] at hm
    obtain ⟨y2, ey2, hm⟩ := nmd_ok hm
    refine lv_iinc (v := y2) (lv' := [(1, .int y2), (0, .int x0)]) S.1 S.2.1 dJ6_numberOfLeadingZeros_0f7a4_40 hl (k := 1) rfl (by rw [ey2]; rfl) (by decide) rfl (fun ls hl => ?_)
    refine lv_iload_n S.1 S.2.1 dJ6_numberOfLeadingZeros_0f7a4_43 rfl (lv_at hl 1 rfl) ?_
    refine lv_bipush (v := (8 : Int32)) S.1 S.2.1 dJ6_numberOfLeadingZeros_0f7a4_44 (by decide) ?_
    refine lv_iushr (v := (ush x0 (8 : Int32))) S.1 S.2.1 dJ6_numberOfLeadingZeros_0f7a4_46 rfl ?_
    obtain ⟨y3, ey3, hm⟩ := nmd_ok hm
    refine gNmI ey3 ?_
    refine lv_istore_n (lv' := [(0, .int y3), (1, .int y2)]) S.1 S.2.1 dJ6_numberOfLeadingZeros_0f7a4_47 rfl hl (by decide) rfl (fun ls hl => ?_)
    exact wJ6_numberOfLeadingZeros_0f7a4_48 S hr hlk _ _ C y3 y2 ls (lv_sub hl [0, 1] rfl) hm
set_option maxHeartbeats 4000000 in
set_option maxRecDepth 100000 in
theorem c_J6_numberOfLeadingZeros_0f7a4 (l : Launch) (sh : gSh) (D : va_G) (cy : gCy) (ad : Nat → Nat) (M : gMem) (x0 : Int32) (r0 : Int32) (hm : mJ6_numberOfLeadingZeros_0f7a4 x0 = some r0) : Met l yJ6_numberOfLeadingZeros_0f7a4 wsJ6_numberOfLeadingZeros_0f7a4 (gR 0 0) (va_Pc [.int x0] (gP sh D cy ad M)) (gQi sh D cy ad r0 M) 0 0 (gA sh ad) := by
  refine gEnter (cc := cJ6_numberOfLeadingZeros_0f7a4) (maxL := 2) (ret := (some .int)) (by decide) rfl (Nat.le_of_ble_eq_true rfl) ?_
  intro p e s m below meth c ls S hr hlk C hl
  have S : CallFix p m c cJ6_numberOfLeadingZeros_0f7a4 2 s _ wsJ6_numberOfLeadingZeros_0f7a4 RJ6 := S
  have hl : lv_has ls 2 [(0, .int x0)] := hl
  rw [mJ6_numberOfLeadingZeros_0f7a4] at hm
  refine lv_iload_n S.1 S.2.1 dJ6_numberOfLeadingZeros_0f7a4_0 rfl (lv_at hl 0 rfl) ?_
  refine lv_if_gt (tgt := 15) S.1 S.2.1 dJ6_numberOfLeadingZeros_0f7a4_1 (by decide) (fun c1 => ?_) (fun c1 => ?_)
  · rw [if_pos c1] at hm
    refine lv_bipush (v := (31 : Int32)) S.1 S.2.1 dJ6_numberOfLeadingZeros_0f7a4_15 (by decide) ?_
    refine lv_istore_n (lv' := [(1, .int (31 : Int32)), (0, .int x0)]) S.1 S.2.1 dJ6_numberOfLeadingZeros_0f7a4_17 rfl hl (by decide) rfl (fun ls hl => ?_)
    refine lv_iload_n S.1 S.2.1 dJ6_numberOfLeadingZeros_0f7a4_18 rfl (lv_at hl 1 rfl) ?_
    refine lv_ldcw (v := (65536 : Int32)) S.1 S.2.1 S.2.2.2.1 (S.2.2.2.2 _ kcJ6_numberOfLeadingZeros_0f7a4_264) dJ6_numberOfLeadingZeros_0f7a4_19 ?_
    refine lv_icmp_lt (tgt := 33) S.1 S.2.1 dJ6_numberOfLeadingZeros_0f7a4_22 (by decide) (fun c2 => ?_) (fun c2 => ?_)
    · rw [if_pos c2] at hm
      exact wJ6_numberOfLeadingZeros_0f7a4_33 S hr hlk _ _ C x0 (31 : Int32) ls (lv_sub hl [1, 0] rfl) hm
    · rw [if_neg c2] at hm
      obtain ⟨y3, ey3, hm⟩ := nmd_ok hm
      refine lv_iinc (v := y3) (lv' := [(1, .int y3), (0, .int x0)]) S.1 S.2.1 dJ6_numberOfLeadingZeros_0f7a4_25 hl (k := 0) rfl (by rw [ey3]; rfl) (by decide) rfl (fun ls hl => ?_)
      refine lv_iload_n S.1 S.2.1 dJ6_numberOfLeadingZeros_0f7a4_28 rfl (lv_at hl 1 rfl) ?_
      refine lv_bipush (v := (16 : Int32)) S.1 S.2.1 dJ6_numberOfLeadingZeros_0f7a4_29 (by decide) ?_
      refine lv_iushr (v := (ush x0 (16 : Int32))) S.1 S.2.1 dJ6_numberOfLeadingZeros_0f7a4_31 rfl ?_
      obtain ⟨y4, ey4, hm⟩ := nmd_ok hm
      refine gNmI ey4 ?_
      refine lv_istore_n (lv' := [(0, .int y4), (1, .int y3)]) S.1 S.2.1 dJ6_numberOfLeadingZeros_0f7a4_32 rfl hl (by decide) rfl (fun ls hl => ?_)
      exact wJ6_numberOfLeadingZeros_0f7a4_33 S hr hlk _ _ C y4 y3 ls (lv_sub hl [0, 1] rfl) hm
  · rw [if_neg c1] at hm
    refine lv_iload_n S.1 S.2.1 dJ6_numberOfLeadingZeros_0f7a4_4 rfl (lv_at hl 0 rfl) ?_
    refine lv_if_ne (tgt := 13) S.1 S.2.1 dJ6_numberOfLeadingZeros_0f7a4_5 (by decide) (fun c5 => ?_) (fun c5 => ?_)
    · rw [if_neg c5] at hm
      refine lv_iconst (v := (0 : Int32)) S.1 S.2.1 dJ6_numberOfLeadingZeros_0f7a4_13 (by decide) ?_
      exact gReti S hr hlk C (Option.some.inj hm) rfl dJ6_numberOfLeadingZeros_0f7a4_14
    · rw [if_pos c5] at hm
      refine lv_bipush (v := (32 : Int32)) S.1 S.2.1 dJ6_numberOfLeadingZeros_0f7a4_8 (by decide) ?_
      refine lv_goto (tgt := 14) S.1 S.2.1 dJ6_numberOfLeadingZeros_0f7a4_10 (by decide) ?_
      exact gReti S hr hlk C (Option.some.inj hm) rfl dJ6_numberOfLeadingZeros_0f7a4_14
def mJ6_numberOfTrailingZeros_0f7a4_62 (x0 : Int32) (x1 : Int32) : Option Int32 := if x0 ≤ (4 : Int32) then (some (x1 + (ush x0 (1 : Int32)))) else (nmd (x1 + (2 : Int32)) fun y2 => nmd (ush x0 (2 : Int32)) fun y3 => some (y2 + (ush y3 (1 : Int32))))
def mJ6_numberOfTrailingZeros_0f7a4_49 (x0 : Int32) (x1 : Int32) : Option Int32 := if x0 ≤ (16 : Int32) then (mJ6_numberOfTrailingZeros_0f7a4_62 x0 x1) else (nmd (x1 + (4 : Int32)) fun y2 => nmd (ush x0 (4 : Int32)) fun y3 => mJ6_numberOfTrailingZeros_0f7a4_62 y3 y2)
def mJ6_numberOfTrailingZeros_0f7a4_34 (x0 : Int32) (x1 : Int32) : Option Int32 := if x0 ≤ (256 : Int32) then (mJ6_numberOfTrailingZeros_0f7a4_49 x0 x1) else (nmd (x1 + (8 : Int32)) fun y2 => nmd (ush x0 (8 : Int32)) fun y3 => mJ6_numberOfTrailingZeros_0f7a4_49 y3 y2)
def mJ6_numberOfTrailingZeros_0f7a4 (x0 : Int32) : Option Int32 := nmd ((x0 ^^^ (-1 : Int32)) &&& (x0 - (1 : Int32))) fun y1 => if 0 < y1 then (if y1 ≤ (65536 : Int32) then (mJ6_numberOfTrailingZeros_0f7a4_34 y1 (1 : Int32)) else (nmd ((1 : Int32) + (16 : Int32)) fun y4 => nmd (ush y1 (16 : Int32)) fun y5 => mJ6_numberOfTrailingZeros_0f7a4_34 y5 y4)) else (some (y1 &&& (32 : Int32)))
set_option maxHeartbeats 4000000 in
set_option maxRecDepth 100000 in
theorem wJ6_numberOfTrailingZeros_0f7a4_62 {p : Program} {l : Launch} {e : Env} {s : State} {m : MethodId} {args : Array Value} {below : List Frame} {meth : Method} {c : Code} {D : va_G} {cy : gCy} {ad : Nat → Nat} {sh : gSh} {M : gMem} {r0 : Int32} (S : CallFix p m c cJ6_numberOfTrailingZeros_0f7a4 2 s args wsJ6_numberOfTrailingZeros_0f7a4 RJ6) (hr : meth.sig.returnType = (some .int)) (hlk : meth.locks = false) : ∀ (H : Heap) (locs : List Loc), gW sh D cy ad s s.heap M H locs → ∀ (x0 : Int32) (x1 : Int32), ∀ (ls : Array Slot), lv_has ls 2 [(0, .int x0), (1, .int x1)] → mJ6_numberOfTrailingZeros_0f7a4_62 x0 x1 = some r0 → W p l e (gR 0 0) s m args below meth c H locs 0 0 (MQ below (gQi sh D cy ad r0 M) args s 0 0 (gA sh ad)) (F0 m 62 ls []) := by
  intro H locs C x0 x1 ls hl hm
  rw [mJ6_numberOfTrailingZeros_0f7a4_62] at hm
  refine lv_iload_n S.1 S.2.1 dJ6_numberOfTrailingZeros_0f7a4_62 rfl (lv_at hl 0 rfl) ?_
  refine lv_iconst (v := (4 : Int32)) S.1 S.2.1 dJ6_numberOfTrailingZeros_0f7a4_63 (by decide) ?_
  refine lv_icmp_le (tgt := 74) S.1 S.2.1 dJ6_numberOfTrailingZeros_0f7a4_64 (by decide) (fun c1 => ?_) (fun c1 => ?_)
  · rw [if_pos c1] at hm
    refine lv_iload_n S.1 S.2.1 dJ6_numberOfTrailingZeros_0f7a4_74 rfl (lv_at hl 1 rfl) ?_
    refine lv_iload_n S.1 S.2.1 dJ6_numberOfTrailingZeros_0f7a4_75 rfl (lv_at hl 0 rfl) ?_
    refine lv_iconst (v := (1 : Int32)) S.1 S.2.1 dJ6_numberOfTrailingZeros_0f7a4_76 (by decide) ?_
    refine lv_iushr (v := (ush x0 (1 : Int32))) S.1 S.2.1 dJ6_numberOfTrailingZeros_0f7a4_77 rfl ?_
    refine lv_iadd S.1 S.2.1 dJ6_numberOfTrailingZeros_0f7a4_78 ?_
    exact gReti S hr hlk C (Option.some.inj hm) rfl dJ6_numberOfTrailingZeros_0f7a4_79
  · rw [if_neg c1] at hm
    obtain ⟨y2, ey2, hm⟩ := nmd_ok hm
    refine lv_iinc (v := y2) (lv' := [(1, .int y2), (0, .int x0)]) S.1 S.2.1 dJ6_numberOfTrailingZeros_0f7a4_67 hl (k := 1) rfl (by rw [ey2]; rfl) (by decide) rfl (fun ls hl => ?_)
    refine lv_iload_n S.1 S.2.1 dJ6_numberOfTrailingZeros_0f7a4_70 rfl (lv_at hl 1 rfl) ?_
    refine lv_iconst (v := (2 : Int32)) S.1 S.2.1 dJ6_numberOfTrailingZeros_0f7a4_71 (by decide) ?_
    refine lv_iushr (v := (ush x0 (2 : Int32))) S.1 S.2.1 dJ6_numberOfTrailingZeros_0f7a4_72 rfl ?_
    obtain ⟨y3, ey3, hm⟩ := nmd_ok hm
    refine gNmI ey3 ?_
    refine lv_istore_n (lv' := [(0, .int y3), (1, .int y2)]) S.1 S.2.1 dJ6_numberOfTrailingZeros_0f7a4_73 rfl hl (by decide) rfl (fun ls hl => ?_)
    refine lv_iload_n S.1 S.2.1 dJ6_numberOfTrailingZeros_0f7a4_74 rfl (lv_at hl 1 rfl) ?_
    refine lv_iload_n S.1 S.2.1 dJ6_numberOfTrailingZeros_0f7a4_75 rfl (lv_at hl 0 rfl) ?_
    refine lv_iconst (v := (1 : Int32)) S.1 S.2.1 dJ6_numberOfTrailingZeros_0f7a4_76 (by decide) ?_
    refine lv_iushr (v := (ush y3 (1 : Int32))) S.1 S.2.1 dJ6_numberOfTrailingZeros_0f7a4_77 rfl ?_
    refine lv_iadd S.1 S.2.1 dJ6_numberOfTrailingZeros_0f7a4_78 ?_
    exact gReti S hr hlk C (Option.some.inj hm) rfl dJ6_numberOfTrailingZeros_0f7a4_79
set_option maxHeartbeats 4000000 in
set_option maxRecDepth 100000 in
theorem wJ6_numberOfTrailingZeros_0f7a4_49 {p : Program} {l : Launch} {e : Env} {s : State} {m : MethodId} {args : Array Value} {below : List Frame} {meth : Method} {c : Code} {D : va_G} {cy : gCy} {ad : Nat → Nat} {sh : gSh} {M : gMem} {r0 : Int32} (S : CallFix p m c cJ6_numberOfTrailingZeros_0f7a4 2 s args wsJ6_numberOfTrailingZeros_0f7a4 RJ6) (hr : meth.sig.returnType = (some .int)) (hlk : meth.locks = false) : ∀ (H : Heap) (locs : List Loc), gW sh D cy ad s s.heap M H locs → ∀ (x0 : Int32) (x1 : Int32), ∀ (ls : Array Slot), lv_has ls 2 [(0, .int x0), (1, .int x1)] → mJ6_numberOfTrailingZeros_0f7a4_49 x0 x1 = some r0 → W p l e (gR 0 0) s m args below meth c H locs 0 0 (MQ below (gQi sh D cy ad r0 M) args s 0 0 (gA sh ad)) (F0 m 49 ls []) := by
  intro H locs C x0 x1 ls hl hm
  rw [mJ6_numberOfTrailingZeros_0f7a4_49] at hm
  refine lv_iload_n S.1 S.2.1 dJ6_numberOfTrailingZeros_0f7a4_49 rfl (lv_at hl 0 rfl) ?_
  refine lv_bipush (v := (16 : Int32)) S.1 S.2.1 dJ6_numberOfTrailingZeros_0f7a4_50 (by decide) ?_
  refine lv_icmp_le (tgt := 62) S.1 S.2.1 dJ6_numberOfTrailingZeros_0f7a4_52 (by decide) (fun c1 => ?_) (fun c1 => ?_)
  · rw [if_pos c1] at hm
    exact wJ6_numberOfTrailingZeros_0f7a4_62 S hr hlk _ _ C x0 x1 ls (lv_sub hl [0, 1] rfl) hm
  · rw [if_neg c1] at hm
    obtain ⟨y2, ey2, hm⟩ := nmd_ok hm
    refine lv_iinc (v := y2) (lv' := [(1, .int y2), (0, .int x0)]) S.1 S.2.1 dJ6_numberOfTrailingZeros_0f7a4_55 hl (k := 1) rfl (by rw [ey2]; rfl) (by decide) rfl (fun ls hl => ?_)
    refine lv_iload_n S.1 S.2.1 dJ6_numberOfTrailingZeros_0f7a4_58 rfl (lv_at hl 1 rfl) ?_
    refine lv_iconst (v := (4 : Int32)) S.1 S.2.1 dJ6_numberOfTrailingZeros_0f7a4_59 (by decide) ?_
    refine lv_iushr (v := (ush x0 (4 : Int32))) S.1 S.2.1 dJ6_numberOfTrailingZeros_0f7a4_60 rfl ?_
    obtain ⟨y3, ey3, hm⟩ := nmd_ok hm
    refine gNmI ey3 ?_
    refine lv_istore_n (lv' := [(0, .int y3), (1, .int y2)]) S.1 S.2.1 dJ6_numberOfTrailingZeros_0f7a4_61 rfl hl (by decide) rfl (fun ls hl => ?_)
    exact wJ6_numberOfTrailingZeros_0f7a4_62 S hr hlk _ _ C y3 y2 ls (lv_sub hl [0, 1] rfl) hm
set_option maxHeartbeats 4000000 in
set_option maxRecDepth 100000 in
theorem wJ6_numberOfTrailingZeros_0f7a4_34 {p : Program} {l : Launch} {e : Env} {s : State} {m : MethodId} {args : Array Value} {below : List Frame} {meth : Method} {c : Code} {D : va_G} {cy : gCy} {ad : Nat → Nat} {sh : gSh} {M : gMem} {r0 : Int32} (S : CallFix p m c cJ6_numberOfTrailingZeros_0f7a4 2 s args wsJ6_numberOfTrailingZeros_0f7a4 RJ6) (hr : meth.sig.returnType = (some .int)) (hlk : meth.locks = false) : ∀ (H : Heap) (locs : List Loc), gW sh D cy ad s s.heap M H locs → ∀ (x0 : Int32) (x1 : Int32), ∀ (ls : Array Slot), lv_has ls 2 [(0, .int x0), (1, .int x1)] → mJ6_numberOfTrailingZeros_0f7a4_34 x0 x1 = some r0 → W p l e (gR 0 0) s m args below meth c H locs 0 0 (MQ below (gQi sh D cy ad r0 M) args s 0 0 (gA sh ad)) (F0 m 34 ls []) := by
  intro H locs C x0 x1 ls hl hm
  rw [mJ6_numberOfTrailingZeros_0f7a4_34] at hm
  refine lv_iload_n S.1 S.2.1 dJ6_numberOfTrailingZeros_0f7a4_34 rfl (lv_at hl 0 rfl) ?_
  refine lv_sipush (v := (256 : Int32)) S.1 S.2.1 dJ6_numberOfTrailingZeros_0f7a4_35 (by decide) ?_
  refine lv_icmp_le (tgt := 49) S.1 S.2.1 dJ6_numberOfTrailingZeros_0f7a4_38 (by decide) (fun c1 => ?_) (fun c1 => ?_)
  · rw [if_pos c1] at hm
    exact wJ6_numberOfTrailingZeros_0f7a4_49 S hr hlk _ _ C x0 x1 ls (lv_sub hl [0, 1] rfl) hm
  · rw [if_neg c1] at hm
    obtain ⟨y2, ey2, hm⟩ := nmd_ok hm
    refine lv_iinc (v := y2) (lv' := [(1, .int y2), (0, .int x0)]) S.1 S.2.1 dJ6_numberOfTrailingZeros_0f7a4_41 hl (k := 1) rfl (by rw [ey2]; rfl) (by decide) rfl (fun ls hl => ?_)
    refine lv_iload_n S.1 S.2.1 dJ6_numberOfTrailingZeros_0f7a4_44 rfl (lv_at hl 1 rfl) ?_
    refine lv_bipush (v := (8 : Int32)) S.1 S.2.1 dJ6_numberOfTrailingZeros_0f7a4_45 (by decide) ?_
    refine lv_iushr (v := (ush x0 (8 : Int32))) S.1 S.2.1 dJ6_numberOfTrailingZeros_0f7a4_47 rfl ?_
    obtain ⟨y3, ey3, hm⟩ := nmd_ok hm
    refine gNmI ey3 ?_
    refine lv_istore_n (lv' := [(0, .int y3), (1, .int y2)]) S.1 S.2.1 dJ6_numberOfTrailingZeros_0f7a4_48 rfl hl (by decide) rfl (fun ls hl => ?_)
    exact wJ6_numberOfTrailingZeros_0f7a4_49 S hr hlk _ _ C y3 y2 ls (lv_sub hl [0, 1] rfl) hm
set_option maxHeartbeats 4000000 in
set_option maxRecDepth 100000 in
theorem c_J6_numberOfTrailingZeros_0f7a4 (l : Launch) (sh : gSh) (D : va_G) (cy : gCy) (ad : Nat → Nat) (M : gMem) (x0 : Int32) (r0 : Int32) (hm : mJ6_numberOfTrailingZeros_0f7a4 x0 = some r0) : Met l yJ6_numberOfTrailingZeros_0f7a4 wsJ6_numberOfTrailingZeros_0f7a4 (gR 0 0) (va_Pc [.int x0] (gP sh D cy ad M)) (gQi sh D cy ad r0 M) 0 0 (gA sh ad) := by
  refine gEnter (cc := cJ6_numberOfTrailingZeros_0f7a4) (maxL := 2) (ret := (some .int)) (by decide) rfl (Nat.le_of_ble_eq_true rfl) ?_
  intro p e s m below meth c ls S hr hlk C hl
  have S : CallFix p m c cJ6_numberOfTrailingZeros_0f7a4 2 s _ wsJ6_numberOfTrailingZeros_0f7a4 RJ6 := S
  have hl : lv_has ls 2 [(0, .int x0)] := hl
  rw [mJ6_numberOfTrailingZeros_0f7a4] at hm
  refine lv_iload_n S.1 S.2.1 dJ6_numberOfTrailingZeros_0f7a4_0 rfl (lv_at hl 0 rfl) ?_
  refine lv_iconst (v := (-1 : Int32)) S.1 S.2.1 dJ6_numberOfTrailingZeros_0f7a4_1 (by decide) ?_
  refine lv_ixor S.1 S.2.1 dJ6_numberOfTrailingZeros_0f7a4_2 ?_
  refine lv_iload_n S.1 S.2.1 dJ6_numberOfTrailingZeros_0f7a4_3 rfl (lv_at hl 0 rfl) ?_
  refine lv_iconst (v := (1 : Int32)) S.1 S.2.1 dJ6_numberOfTrailingZeros_0f7a4_4 (by decide) ?_
  refine lv_isub S.1 S.2.1 dJ6_numberOfTrailingZeros_0f7a4_5 ?_
  refine lv_iand S.1 S.2.1 dJ6_numberOfTrailingZeros_0f7a4_6 ?_
  obtain ⟨y1, ey1, hm⟩ := nmd_ok hm
  refine gNmI ey1 ?_
  refine lv_istore_n (lv' := [(0, .int y1)]) S.1 S.2.1 dJ6_numberOfTrailingZeros_0f7a4_7 rfl hl (by decide) rfl (fun ls hl => ?_)
  refine lv_iload_n S.1 S.2.1 dJ6_numberOfTrailingZeros_0f7a4_8 rfl (lv_at hl 0 rfl) ?_
  refine lv_if_gt (tgt := 17) S.1 S.2.1 dJ6_numberOfTrailingZeros_0f7a4_9 (by decide) (fun c2 => ?_) (fun c2 => ?_)
  · rw [if_pos c2] at hm
    refine lv_iconst (v := (1 : Int32)) S.1 S.2.1 dJ6_numberOfTrailingZeros_0f7a4_17 (by decide) ?_
    refine lv_istore_n (lv' := [(1, .int (1 : Int32)), (0, .int y1)]) S.1 S.2.1 dJ6_numberOfTrailingZeros_0f7a4_18 rfl hl (by decide) rfl (fun ls hl => ?_)
    refine lv_iload_n S.1 S.2.1 dJ6_numberOfTrailingZeros_0f7a4_19 rfl (lv_at hl 1 rfl) ?_
    refine lv_ldcw (v := (65536 : Int32)) S.1 S.2.1 S.2.2.2.1 (S.2.2.2.2 _ kcJ6_numberOfTrailingZeros_0f7a4_264) dJ6_numberOfTrailingZeros_0f7a4_20 ?_
    refine lv_icmp_le (tgt := 34) S.1 S.2.1 dJ6_numberOfTrailingZeros_0f7a4_23 (by decide) (fun c3 => ?_) (fun c3 => ?_)
    · rw [if_pos c3] at hm
      exact wJ6_numberOfTrailingZeros_0f7a4_34 S hr hlk _ _ C y1 (1 : Int32) ls (lv_sub hl [1, 0] rfl) hm
    · rw [if_neg c3] at hm
      obtain ⟨y4, ey4, hm⟩ := nmd_ok hm
      refine lv_iinc (v := y4) (lv' := [(1, .int y4), (0, .int y1)]) S.1 S.2.1 dJ6_numberOfTrailingZeros_0f7a4_26 hl (k := 0) rfl (by rw [ey4]; rfl) (by decide) rfl (fun ls hl => ?_)
      refine lv_iload_n S.1 S.2.1 dJ6_numberOfTrailingZeros_0f7a4_29 rfl (lv_at hl 1 rfl) ?_
      refine lv_bipush (v := (16 : Int32)) S.1 S.2.1 dJ6_numberOfTrailingZeros_0f7a4_30 (by decide) ?_
      refine lv_iushr (v := (ush y1 (16 : Int32))) S.1 S.2.1 dJ6_numberOfTrailingZeros_0f7a4_32 rfl ?_
      obtain ⟨y5, ey5, hm⟩ := nmd_ok hm
      refine gNmI ey5 ?_
      refine lv_istore_n (lv' := [(0, .int y5), (1, .int y4)]) S.1 S.2.1 dJ6_numberOfTrailingZeros_0f7a4_33 rfl hl (by decide) rfl (fun ls hl => ?_)
      exact wJ6_numberOfTrailingZeros_0f7a4_34 S hr hlk _ _ C y5 y4 ls (lv_sub hl [0, 1] rfl) hm
  · rw [if_neg c2] at hm
    refine lv_iload_n S.1 S.2.1 dJ6_numberOfTrailingZeros_0f7a4_12 rfl (lv_at hl 0 rfl) ?_
    refine lv_bipush (v := (32 : Int32)) S.1 S.2.1 dJ6_numberOfTrailingZeros_0f7a4_13 (by decide) ?_
    refine lv_iand S.1 S.2.1 dJ6_numberOfTrailingZeros_0f7a4_15 ?_
    exact gReti S hr hlk C (Option.some.inj hm) rfl dJ6_numberOfTrailingZeros_0f7a4_16
