/-! the law: two worlds side by side -/
def lwI (D : va_G) (cy : gCy) (aC aR : Nat → Nat) (s : State) (MC MR : gMem) (H : Heap) (locs : List Loc) : Prop := va_K D vwCl (gTy cy) s ∧ gNw s ∧ gInj shC aC ∧ gInj shR aR ∧ va_P D vwCl (gL shC cy aC MC) H ∧ va_P D vwCl (gL shR cy aR MR) H ∧ (∀ i j, i < shC.length → j < shR.length → aC i ≠ aR j) ∧ (∀ i, i < shC.length → s.heap.size ≤ aC i) ∧ (∀ j, j < shR.length → s.heap.size ≤ aR j) ∧ va_S (fun q : Nat => s.heap.size ≤ q) s.heap H locs
theorem lwI.S {D : va_G} {cy : gCy} {aC aR : Nat → Nat} {s : State} {MC MR : gMem} {H : Heap} {locs : List Loc} (C : lwI D cy aC aR s MC MR H locs) : va_S (fun q : Nat => s.heap.size ≤ q) s.heap H locs := C.2.2.2.2.2.2.2.2.2
theorem gL_lt {sh : gSh} {D : va_G} {cy : gCy} {ad : Nat → Nat} {M : gMem} {H : Heap} (hP : va_P D vwCl (gL sh cy ad M) H) {k : Nat} (hk : k < sh.length) : ad k < H.size := (hP k _ (gL_at (List.getElem?_eq_getElem hk))).lt
theorem gL_kept {sh : gSh} {D : va_G} {cy : gCy} {ad : Nat → Nat} {M : gMem} {H H1 : Heap} (hP : va_P D vwCl (gL sh cy ad M) H) (h : ∀ k, k < sh.length → H1[ad k]? = H[ad k]?) : va_P D vwCl (gL sh cy ad M) H1 := hP.kept (fun k q hq => by rw [(gL_in hq).2]; exact h k (gL_in hq).1)
section LW
variable {p : Program} {l : Launch} {e : Env} {R : Room} {s : State} {m : MethodId} {args : Array Value} {below : List Frame} {meth : Method} {c : Code} {H : Heap} {locs : List Loc} {cells slots : Nat} {Q : State → Prop}
variable {cc : ByteArray} {pc nL : Nat} {ls : Array Slot} {rest : List Value} {D : va_G} {cy : gCy} {aC aR : Nat → Nat} {MC MR M' : gMem} {Ts : List Cond} {own : String}
theorem lC_iC {st0 : List Value} {a : Array Value} {r : Int32} (C : lwI D cy aC aR s MC MR H locs) (hr : va_Run p l e R s m args below meth c H locs cells slots 0 0 (F0 m pc ls st0) rest (gQi shC D cy aC r M' a) (gA shC aC)) (kk : ∀ (H1 : Heap) (locs1 : List Loc), lwI D cy aC aR s M' MR H1 locs1 → W p l e R s m args below meth c H1 locs1 cells slots Q (F0 m (pc + 3) ls (.int r :: rest))) : W p l e R s m args below meth c H locs cells slots Q (F0 m pc ls st0) := by
  obtain ⟨hK, hN, iC, iR, pC, pR, ap, gC, gR, hS⟩ := C
  have fr : ∀ q, gA shC aC q → s.heap.size ≤ q := fun q ⟨k, hk, e⟩ => e ▸ gC k hk
  refine va_calli hr hS (fun q _ h => fr q h) fr (fun r' u t H1 locs1 ht hvm hw hB hz hk hS => ?_)
  obtain ⟨rfl, rfl⟩ := hw
  exact kk H1 locs1 ⟨hK, hN, iC, iR, by rw [← ht]; exact hB.2.2.2, gL_kept pR (fun j hj => hk _ (gL_lt pR hj) (fun ⟨k, hk, e⟩ => ap k j hk hj e.symm)), ap, gC, gR, hS⟩
theorem lC_lC {st0 : List Value} {a : Array Value} {r : Int64} (C : lwI D cy aC aR s MC MR H locs) (hr : va_Run p l e R s m args below meth c H locs cells slots 0 0 (F0 m pc ls st0) rest (gQl shC D cy aC r M' a) (gA shC aC)) (kk : ∀ (H1 : Heap) (locs1 : List Loc), lwI D cy aC aR s M' MR H1 locs1 → W p l e R s m args below meth c H1 locs1 cells slots Q (F0 m (pc + 3) ls (.long r :: rest))) : W p l e R s m args below meth c H locs cells slots Q (F0 m pc ls st0) := by
  obtain ⟨hK, hN, iC, iR, pC, pR, ap, gC, gR, hS⟩ := C
  have fr : ∀ q, gA shC aC q → s.heap.size ≤ q := fun q ⟨k, hk, e⟩ => e ▸ gC k hk
  refine va_calll hr hS (fun q _ h => fr q h) fr (fun r' u t H1 locs1 ht hvm hw hB hz hk hS => ?_)
  obtain ⟨rfl, rfl⟩ := hw
  exact kk H1 locs1 ⟨hK, hN, iC, iR, by rw [← ht]; exact hB.2.2.2, gL_kept pR (fun j hj => hk _ (gL_lt pR hj) (fun ⟨k, hk, e⟩ => ap k j hk hj e.symm)), ap, gC, gR, hS⟩
theorem lC_iR {st0 : List Value} {a : Array Value} {r : Int32} (C : lwI D cy aC aR s MC MR H locs) (hr : va_Run p l e R s m args below meth c H locs cells slots 0 0 (F0 m pc ls st0) rest (gQi shR D cy aR r M' a) (gA shR aR)) (kk : ∀ (H1 : Heap) (locs1 : List Loc), lwI D cy aC aR s MC M' H1 locs1 → W p l e R s m args below meth c H1 locs1 cells slots Q (F0 m (pc + 3) ls (.int r :: rest))) : W p l e R s m args below meth c H locs cells slots Q (F0 m pc ls st0) := by
  obtain ⟨hK, hN, iC, iR, pC, pR, ap, gC, gR, hS⟩ := C
  have fr : ∀ q, gA shR aR q → s.heap.size ≤ q := fun q ⟨k, hk, e⟩ => e ▸ gR k hk
  refine va_calli hr hS (fun q _ h => fr q h) fr (fun r' u t H1 locs1 ht hvm hw hB hz hk hS => ?_)
  obtain ⟨rfl, rfl⟩ := hw
  exact kk H1 locs1 ⟨hK, hN, iC, iR, gL_kept pC (fun j hj => hk _ (gL_lt pC hj) (fun ⟨k, hk, e⟩ => ap j k hj hk e)), by rw [← ht]; exact hB.2.2.2, ap, gC, gR, hS⟩
theorem lC_lR {st0 : List Value} {a : Array Value} {r : Int64} (C : lwI D cy aC aR s MC MR H locs) (hr : va_Run p l e R s m args below meth c H locs cells slots 0 0 (F0 m pc ls st0) rest (gQl shR D cy aR r M' a) (gA shR aR)) (kk : ∀ (H1 : Heap) (locs1 : List Loc), lwI D cy aC aR s MC M' H1 locs1 → W p l e R s m args below meth c H1 locs1 cells slots Q (F0 m (pc + 3) ls (.long r :: rest))) : W p l e R s m args below meth c H locs cells slots Q (F0 m pc ls st0) := by
  obtain ⟨hK, hN, iC, iR, pC, pR, ap, gC, gR, hS⟩ := C
  have fr : ∀ q, gA shR aR q → s.heap.size ≤ q := fun q ⟨k, hk, e⟩ => e ▸ gR k hk
  refine va_calll hr hS (fun q _ h => fr q h) fr (fun r' u t H1 locs1 ht hvm hw hB hz hk hS => ?_)
  obtain ⟨rfl, rfl⟩ := hw
  exact kk H1 locs1 ⟨hK, hN, iC, iR, gL_kept pC (fun j hj => hk _ (gL_lt pC hj) (fun ⟨k, hk, e⟩ => ap j k hj hk e)), by rw [← ht]; exact hB.2.2.2, ap, gC, gR, hS⟩
theorem lRV {sh : gSh} {ad : Nat → Nat} {M : gMem} {y : MethodName} {bytes : ByteArray} {maxL index f1 n1 : Nat} {ret : Option FieldType} {ws ws' : List Cond} {Qc : Array Value → State → Outcome → State → Prop} {As st0 : List Value} {k ci : Nat} {q : Nat × Nat} {r : vw_C} {fs : List Value} (n : Nat) (S : CallFix p m c cc nL s args Ts own) (hK : va_K D vwCl (gTy cy) s) (hN : gNw s) (hI : gInj sh ad) (hP : va_P D vwCl (gL sh cy ad M) H) (hM : Met l y ws (gR f1 n1) (va_Pc (.ref (ad k) :: As) (gP sh D cy ad M)) Qc 0 0 (gA sh ad)) (hT : GoodIn Ts (wsV own index r.1 y ws)) (hw : ws = Cond.code y bytes maxL ret :: ws') (hd : y.cls = r.1 ∧ y.cls ≠ "java/lang/invoke/MethodHandle" ∧ y.cls ≠ "java/lang/invoke/VarHandle" ∧ (parseMethodDescriptor y.desc).map (fun d => d.parameters.length) = some n) (hR : f1 + 1 ≤ R.frames ∧ 8 + (maxL + 11) + n1 ≤ R.locals)
    (hq : sh[k]? = some q) (he : gE cy q k ad (M.1 k) (M.2 k) = .inr (ci, fs)) (hc : vwCl[ci]? = some r) (hn : As.length = n) (hsize : ls.size = nL) (hst : st0 = As.reverse ++ .ref (ad k) :: rest) (hW : (rest.map fun v => v.category).sum ≤ 8) (hdg : decode cc pc = .ok (.invokevirtual index, 3)) (hf : cells + 0 ≤ R.cells ∧ slots + 0 ≤ R.slots) : va_Run p l e R s m args below meth c H locs cells slots 0 0 (F0 m pc ls st0) rest (Qc (Value.ref (ad k) :: As).toArray) (gA sh ad) :=
  va_runV S hM (cwV n S.2.2.2.2 hT hw rfl rfl hd hR) ⟨gP_blind, va_recv hK hP hc (by rw [gL_at hq, he]), fun U hU hW => ⟨rfl, va_K.moved hW.alike hK, gNw.warm hW hN, hI, by rw [hU]; exact hP⟩⟩ rfl hn hsize hst (lv_room hW) hdg hf
/-- an int of the script as an argument -/
theorem lArg {b L c0 r0 i : Nat} {xs : Nat → Int32} (j : Nat) {n : Int} (S : CallFix p m c cc 4 s args Ts own) (hX : va_X b L xs s s.heap) (hbl : b < s.heap.size) (hL : L ≤ 2560) (hS : va_S (fun q : Nat => s.heap.size ≤ q) s.heap H locs) (hl : lv_has ls 4 [(0, .ref b), (1, .ref c0), (2, .ref r0), (3, .int (nI i))]) (hi : i + j < L) (hn : Int32.ofInt n = nI j) (d1 : decode cc pc = .ok (.aload_n 0, 1)) (d2 : decode cc (pc + 1) = .ok (.iload_n 3, 1)) (d3 : decode cc (pc + 2) = .ok (.iconst n, 1)) (d4 : decode cc (pc + 3) = .ok (.iadd, 1)) (d5 : decode cc (pc + 4) = .ok (.iaload, 1))
    (kk : W p l e R s m args below meth c H locs cells slots Q (F0 m (pc + 5) ls (.int (xs (i + j)) :: rest))) : W p l e R s m args below meth c H locs cells slots Q (F0 m pc ls rest) := by
  refine lv_aload_n S.1 S.2.1 d1 rfl (lv_at hl 0 rfl) ?_
  refine lv_iload_n S.1 S.2.1 d2 rfl (lv_at hl 3 rfl) ?_
  refine lv_iconst (v := nI j) S.1 S.2.1 d3 hn ?_
  refine lv_iadd S.1 S.2.1 d4 ?_
  refine gNmI (nI_add i j).symm ?_
  refine va_sld S.1 S.2.1 hX hbl (show ¬ s.heap.size ≤ b from Nat.not_le.mpr hbl) hS (vp_in_nI hi (by omega)) d5 ?_
  rw [nI_clamp (show i + j < 2 ^ 31 by omega)]
  exact kk
end LW
