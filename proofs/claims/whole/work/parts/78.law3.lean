/-! THE CLAIM OUT OF ONE WALK OF THE LAW'S BODY. Your part is whole_start (and what it stands on); all else here is the same for every law, but numbers. -/
def R_law : String := "PrefixLeaderLaw"
def lw_P (b : Addr) (xs : List Int32) (args : Array Value) (s : State) : Prop := args = #[.ref b] ∧ s.IntsAt b xs ∧ xs.length ≤ 2560 ∧ (Jvm.Cond.and given_1 narrow_1).before args s = true
def lw_Q (_ : Array Value) (s : State) (o : Outcome) (t : State) : Prop := o = .returned (some (.int 1)) ∧ Framed s o t [] 600000 7302249
def lw_Z (below : List Frame) (a : Array Value) (s : State) : State → Prop := fun t => ∃ o, t.status = .running ∧ Ended t below o ∧ lw_Q a s o t
/-- the law's own end, with 1 on the stack, nothing written that was there before, its room as the claim has it -/
theorem lw_ret {p : Program} {l : Launch} {e : Env} {s : State} {m : MethodId} {below : List Frame} {meth : Method} {c : Code} {b : Nat} (hx : p.tables.exec = Jvm.exec) (hb : c.code = code) (hr : meth.sig.returnType = ret) (hlocks : meth.locks = false) {pc : Nat} {H : Heap} {ls : Array Slot} (hdg : decode code pc = .ok (.ireturn, 1)) : W p l e room_1 s m #[Value.ref b] below meth c H [] 600000 7302249 (lw_Z below #[Value.ref b] s) (F0 m pc ls [.int 1]) := by
  intro T hT X
  obtain ⟨fs, hret, hrun, hended, hW, hframe⟩ := X.leave (v := some (.int 1)) (hlocks := hlocks) (fun h => by rw [hr] at h; cases h)
  have hmeth' : T.vm.method? m = some meth := X.method'
  refine ⟨T.setFrames fs, ?_, .returned (some (.int 1)), hrun, hended, rfl, ⟨_, rfl⟩, hW, hframe⟩
  jvm_step X.here [X.here.top, hx, hb, hdg, hmeth', hr, ret, narrow_b1]
  (try refine ⟨rfl, ?_⟩); (try refine ⟨rfl, ?_⟩)
  first | (intro acts; rw [hret _ acts rfl rfl rfl]) | rw [hret _ _ rfl rfl rfl]
  exact Steps.refl _
/-- what holds at the law's entry: the machine, the code, the tables' words (any of lw_tbl by 'hts w (by decide +kernel)'), the script of L ints xs at the cell b, what the Statement gives of the start (any of its parts by flat_of_before) -/
def lw_At (p : Program) (s : State) (m : MethodId) (meth : Method) (c : Code) (b L : Nat) (xs : Nat → Int32) : Prop :=
  p.tables.exec = Jvm.exec ∧ c.code = code ∧ meth.sig.returnType = ret ∧ c.maxLocals = 4 ∧ s.vm.findClass R_law = some m.cls ∧ (∀ w ∈ lw_tbl, w.before #[Value.ref b] s = true) ∧ va_X b L xs s s.heap ∧ b < s.heap.size ∧ meth.locks = false ∧ (Jvm.Cond.and given_1 narrow_1).before #[Value.ref b] s = true
theorem and31 (x : Int32) : ∃ k, k < 32 ∧ nI k = x &&& 31 := by
  have a : (x &&& 31).toBitVec.toNat = x.toBitVec.toNat &&& 31 := by rw [Int32.toBitVec_and, BitVec.toNat_and]; rfl
  have b := @Nat.and_le_right x.toBitVec.toNat 31
  refine ⟨(x &&& 31).toBitVec.toNat, by omega, ?_⟩
  exact Int32.toBitVec_inj.mp (BitVec.eq_of_toNat_eq (nI_tn (by omega)))
theorem lw_room5 {L i : Nat} (hL : L ≤ 2560) (hi : i ≤ L) (h : ¬ Int32.ofNat L - 5 < nI i) : i + 5 ≤ L := by
  rcases Nat.lt_or_ge L 5 with c | c
  · have key : ∀ L : Fin 5, ∀ i : Fin 5, Int32.ofNat L.val - 5 < nI i.val := by decide
    exact absurd (key ⟨L, c⟩ ⟨i, by omega⟩) h
  · have e : Int32.ofNat L - 5 = nI (L - 5) := by
      have q := nI_add (L - 5) 5
      rw [Nat.sub_add_cancel c] at q
      show nI L - nI 5 = nI (L - 5)
      rw [← q, Int32.add_sub_cancel]
    rw [e] at h
    rcases Nat.lt_or_ge (L - 5) i with z | z
    · exact absurd (nI_lt z (by omega)) h
    · omega
theorem lw_out : ∀ k : Fin 32, 22 ≤ k.val → 21 < (nI k.val).toInt := by decide
set_option maxHeartbeats 4000000 in
set_option maxRecDepth 100000 in
theorem law_loop {p : Program} {l : Launch} {e : Env} {s : State} {m : MethodId} {below : List Frame} {meth : Method} {c : Code} {D : va_G} {cy : gCy} {aC aR : Nat → Nat} {b L cells slots : Nat} {xs : Nat → Int32} (S : CallFix p m c cL_law 4 s #[Value.ref b] wsL_law RL) (hr : meth.sig.returnType = ret) (hlk : meth.locks = false) (hX : va_X b L xs s s.heap) (hbl : b < s.heap.size) (hL : L ≤ 2560) (hc : cells ≤ 600000) (hs : slots ≤ 7302249) : ∀ (n i : Nat), i ≤ L → L + 1 ≤ i + n → ∀ (MC MR : gMem) (H : Heap) (locs : List Loc) (ls : Array Slot), lwI D cy aC aR s MC MR H locs → Inv MC MR → lv_has ls 4 [(0, .ref b), (1, .ref (aC 0)), (2, .ref (aR 0)), (3, .int (nI i))] → W p l e room_1 s m #[Value.ref b] below meth c H locs cells slots (lw_Z below #[Value.ref b] s) (F0 m 18 ls []) := by
  have hf : cells + 0 ≤ room_1.cells ∧ slots + 0 ≤ room_1.slots := ⟨hc, hs⟩
  have hbA : ¬ s.heap.size ≤ b := Nat.not_le.mpr hbl
  intro n
  induction n with
  | zero => intro i h1 h2; exact absurd h2 (by omega)
  | succ n ih =>
    intro i hi hin MC MR H locs ls C h hl
    refine lv_iload_n S.1 S.2.1 dL_law_18 rfl (lv_at hl 3 rfl) ?_
    refine lv_aload_n S.1 S.2.1 dL_law_19 rfl (lv_at hl 0 rfl) ?_
    refine va_slen S.1 S.2.1 hX hbl hbA C.S dL_law_20 ?_
    refine lv_iconst (v := 5) S.1 S.2.1 dL_law_21 (by decide) ?_
    refine lv_isub S.1 S.2.1 dL_law_22 ?_
    refine lv_icmp_gt (tgt := 945) S.1 S.2.1 dL_law_23 (by decide) (fun cq => ?_) (fun cq => ?_)
    · refine lv_iconst (v := 1) S.1 S.2.1 dL_law_945 (by decide) ?_
      refine va_forget (fun q hq => C.S.2.2 q hq) ?_
      refine W.widen (k := 600000) (n := 7302249) hc hs ?_
      exact lw_ret S.1 S.2.1 hr hlk dL_law_946
    have hi5 : i + 5 ≤ L := lw_room5 hL hi cq
    have step : ∀ (MC1 MR1 : gMem) (H1 : Heap) (locs1 : List Loc), lwI D cy aC aR s MC1 MR1 H1 locs1 → Inv MC1 MR1 → W p l e room_1 s m #[Value.ref b] below meth c H1 locs1 cells slots (lw_Z below #[Value.ref b] s) (F0 m 939 ls []) := by
      intro MC1 MR1 H1 locs1 C1 h1
      refine lv_iinc (v := nI (i + 5)) (lv' := [(3, .int (nI (i + 5))), (0, .ref b), (1, .ref (aC 0)), (2, .ref (aR 0))]) S.1 S.2.1 dL_law_939 hl (k := 3) rfl (nI_add i 5) (by decide) rfl (fun ls hl => ?_)
      refine lv_goto (tgt := 18) S.1 S.2.1 dL_law_942 (by decide) ?_
      exact ih (i + 5) hi5 (by omega) MC1 MR1 H1 locs1 ls C1 h1 (lv_sub hl [1, 2, 3, 0] rfl)
    refine lv_aload_n S.1 S.2.1 dL_law_26 rfl (lv_at hl 0 rfl) ?_
    refine lv_iload_n S.1 S.2.1 dL_law_27 rfl (lv_at hl 3 rfl) ?_
    refine va_sld S.1 S.2.1 hX hbl hbA C.S (vp_in_nI (show i < L by omega) (by omega)) dL_law_28 ?_
    refine lv_bipush (v := 31) S.1 S.2.1 dL_law_29 (by decide) ?_
    refine lv_iand S.1 S.2.1 dL_law_31 ?_
    obtain ⟨k, hk, ek⟩ := and31 (xs (nI i).toNatClampNeg)
    refine gNmI ek ?_
    rcases (show k = 0 ∨ k = 1 ∨ k = 2 ∨ k = 3 ∨ k = 4 ∨ k = 5 ∨ k = 6 ∨ k = 7 ∨ k = 8 ∨ k = 9 ∨ k = 10 ∨ k = 11 ∨ k = 12 ∨ k = 13 ∨ k = 14 ∨ k = 15 ∨ k = 16 ∨ k = 17 ∨ k = 18 ∨ k = 19 ∨ k = 20 ∨ k = 21 ∨ 22 ≤ k by omega) with rfl | rfl | rfl | rfl | rfl | rfl | rfl | rfl | rfl | rfl | rfl | rfl | rfl | rfl | rfl | rfl | rfl | rfl | rfl | rfl | rfl | rfl | k22
    · exact lv_tableIn (off := 104) (tgt := 136) S.1 S.2.1 dL_law_32 (by decide) (by decide) rfl (by decide) (law_c0 S hX hbl hL hf hi5 C h hl step)
    · exact lv_tableIn (off := 157) (tgt := 189) S.1 S.2.1 dL_law_32 (by decide) (by decide) rfl (by decide) (law_c1 S hX hbl hL hf hi5 C h hl step)
    · exact lv_tableIn (off := 200) (tgt := 232) S.1 S.2.1 dL_law_32 (by decide) (by decide) rfl (by decide) (law_c2 S hX hbl hL hf hi5 C h hl step)
    · exact lv_tableIn (off := 233) (tgt := 265) S.1 S.2.1 dL_law_32 (by decide) (by decide) rfl (by decide) (law_c3 S hX hbl hL hf hi5 C h hl step)
    · exact lv_tableIn (off := 256) (tgt := 288) S.1 S.2.1 dL_law_32 (by decide) (by decide) rfl (by decide) (law_c4 S hX hbl hL hf hi5 C h hl step)
    · exact lv_tableIn (off := 300) (tgt := 332) S.1 S.2.1 dL_law_32 (by decide) (by decide) rfl (by decide) (law_c5 S hX hbl hL hf hi5 C h hl step)
    · exact lv_tableIn (off := 333) (tgt := 365) S.1 S.2.1 dL_law_32 (by decide) (by decide) rfl (by decide) (law_c6 S hX hbl hL hf hi5 C h hl step)
    · exact lv_tableIn (off := 366) (tgt := 398) S.1 S.2.1 dL_law_32 (by decide) (by decide) rfl (by decide) (law_c7 S hX hbl hL hf hi5 C h hl step)
    · exact lv_tableIn (off := 399) (tgt := 431) S.1 S.2.1 dL_law_32 (by decide) (by decide) rfl (by decide) (law_c8 S hX hbl hL hf hi5 C h hl step)
    · exact lv_tableIn (off := 442) (tgt := 474) S.1 S.2.1 dL_law_32 (by decide) (by decide) rfl (by decide) (law_c9 S hX hbl hL hf hi5 C h hl step)
    · exact lv_tableIn (off := 465) (tgt := 497) S.1 S.2.1 dL_law_32 (by decide) (by decide) rfl (by decide) (law_c10 S hX hbl hL hf hi5 C h hl step)
    · exact lv_tableIn (off := 509) (tgt := 541) S.1 S.2.1 dL_law_32 (by decide) (by decide) rfl (by decide) (law_c11 S hX hbl hL hf hi5 C h hl step)
    · exact lv_tableIn (off := 543) (tgt := 575) S.1 S.2.1 dL_law_32 (by decide) (by decide) rfl (by decide) (law_c12 S hX hbl hL hf hi5 C h hl step)
    · exact lv_tableIn (off := 576) (tgt := 608) S.1 S.2.1 dL_law_32 (by decide) (by decide) rfl (by decide) (law_c13 S hX hbl hL hf hi5 C h hl step)
    · exact lv_tableIn (off := 620) (tgt := 652) S.1 S.2.1 dL_law_32 (by decide) (by decide) rfl (by decide) (law_c14 S hX hbl hL hf hi5 C h hl step)
    · exact lv_tableIn (off := 673) (tgt := 705) S.1 S.2.1 dL_law_32 (by decide) (by decide) rfl (by decide) (law_c15 S hX hbl hL hf hi5 C h hl step)
    · exact lv_tableIn (off := 706) (tgt := 738) S.1 S.2.1 dL_law_32 (by decide) (by decide) rfl (by decide) (law_c16 S hX hbl hL hf hi5 C h hl step)
    · exact lv_tableIn (off := 740) (tgt := 772) S.1 S.2.1 dL_law_32 (by decide) (by decide) rfl (by decide) (law_c17 S hX hbl hL hf hi5 C h hl step)
    · exact lv_tableIn (off := 773) (tgt := 805) S.1 S.2.1 dL_law_32 (by decide) (by decide) rfl (by decide) (law_c18 S hX hbl hL hf hi5 C h hl step)
    · exact lv_tableIn (off := 807) (tgt := 839) S.1 S.2.1 dL_law_32 (by decide) (by decide) rfl (by decide) (law_c19 S hX hbl hL hf hi5 C h hl step)
    · exact lv_tableIn (off := 840) (tgt := 872) S.1 S.2.1 dL_law_32 (by decide) (by decide) rfl (by decide) (law_c20 S hX hbl hL hf hi5 C h hl step)
    · exact lv_tableIn (off := 874) (tgt := 906) S.1 S.2.1 dL_law_32 (by decide) (by decide) rfl (by decide) (law_c21 S hX hbl hL hf hi5 C h hl step)
    · exact lv_tableOut (tgt := 939) S.1 S.2.1 dL_law_32 (Or.inr (lw_out ⟨k, hk⟩ k22)) (by decide) (step MC MR H locs C h)
