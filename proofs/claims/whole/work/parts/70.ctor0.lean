/-! constructors: worlds as lists that grow -/
abbrev nPre (D : va_G) (cy : gCy) (sz : Nat) (ws : va_W) (U : State) : Prop := U.heap.size = sz ∧ va_K D vwCl (gTy cy) U ∧ gNw U ∧ va_P D vwCl ws U.heap ∧ va_D (fun _ => True) ws ∧ va_AO RX2 U
abbrev nQ (D : va_G) (b0 : Nat × va_E) (sz : Nat) (wf : (Nat → Nat) → va_W) : Array Value → State → Outcome → State → Prop := va_Qv (fun u : Nat → Nat => u 0 = b0.1) (fun u t => va_P D vwCl (wf u) t.heap ∧ va_D (va_A [b0] sz) (wf u)) (va_A [b0] sz)
abbrev nMet (l : Launch) (y : MethodName) (wsy : List Cond) (rm : Room) (D : va_G) (cy : gCy) (As : List Value) (b0 : Nat × va_E) (sz : Nat) (wf : (Nat → Nat) → va_W) (mc ms : Nat) : Prop := Met l y wsy rm (va_Pc As (nPre D cy sz [b0])) (nQ D b0 sz wf) mc ms (va_A [b0] sz)
theorem nPre_blind {D : va_G} {cy : gCy} {sz : Nat} {ws : va_W} {As : List Value} : FrameBlind (va_Pc As (nPre D cy sz ws)) := fun a U g mk h => ⟨h.1, h.2.1, va_K.moved (u := U) (U := U.calling g mk a) (Vm.Alike.refl U.vm) h.2.2.1, gNw.same rfl h.2.2.2.1, h.2.2.2.2.1, h.2.2.2.2.2.1, va_AO.moved (u := U) (U := U.calling g mk a) (Vm.Alike.refl U.vm) h.2.2.2.2.2.2⟩
section NC
variable {p : Program} {l : Launch} {e : Env} {R : Room} {s : State} {m : MethodId} {args : Array Value} {below : List Frame} {meth : Method} {c : Code} {H H0 : Heap} {locs : List Loc} {cells slots : Nat} {Q : State → Prop}
variable {cc : ByteArray} {pc nL : Nat} {ls : Array Slot} {rest : List Value} {D : va_G} {cy : gCy} {Ts : List Cond} {own : String} {A : Nat → Prop} {ws wr : va_W}
theorem nBehind {st0 : List Value} {a : Array Value} {q : Nat} {e0 : va_E} {wf : (Nat → Nat) → va_W} {mc ms : Nat} (hP : va_P D vwCl (wr ++ [(q, e0)]) H) (hD : va_D A (wr ++ [(q, e0)])) (hS : va_S A H0 H locs) (hA : ∀ q, H0.size ≤ q → A q) (hr : va_Run p l e R s m args below meth c H locs cells slots mc ms (F0 m pc ls st0) rest (nQ D (q, e0) H.size wf a) (va_A [(q, e0)] H.size))
    (kk : ∀ (u : Nat → Nat) (H1 : Heap) (locs1 : List Loc), u 0 = q → va_P D vwCl (wr ++ wf u) H1 → va_D A (wr ++ wf u) → va_S A H0 H1 locs1 → W p l e R s m args below meth c H1 locs1 (cells + mc) (slots + ms) Q (F0 m (pc + 3) ls rest)) : W p l e R s m args below meth c H locs cells slots Q (F0 m pc ls st0) := by
  have hq : (wr ++ [(q, e0)])[wr.length]? = some (q, e0) := by simp
  have hFc : ∀ x, va_A [(q, e0)] H.size x → A x := by
    intro x hx
    rcases hx with ⟨k, e1, h⟩ | h
    · have hk : k < 1 := (List.getElem?_eq_some_iff.mp h).1
      have hk0 : k = 0 := by omega
      subst hk0
      cases h
      exact hD.2 wr.length _ hq
    · exact hA x (Nat.le_trans hS.1 h)
  have hwr : ∀ (k : Nat) (x : Nat × va_E), wr[k]? = some x → (wr ++ [(q, e0)])[k]? = some x ∧ k < wr.length := by
    intro k x hx
    have hk := (List.getElem?_eq_some_iff.mp hx).1
    exact ⟨by rw [List.getElem?_append_left hk]; exact hx, hk⟩
  have hap : ∀ (k : Nat) (x : Nat × va_E), wr[k]? = some x → x.1 < H.size ∧ ¬ va_A [(q, e0)] H.size x.1 := by
    intro k x hx
    obtain ⟨h1, h2⟩ := hwr k x hx
    have hlt := (hP k x h1).lt
    refine ⟨hlt, fun h => ?_⟩
    rcases h with ⟨k1, e1, h⟩ | h
    · have hk : k1 < 1 := (List.getElem?_eq_some_iff.mp h).1
      have hk0 : k1 = 0 := by omega
      subst hk0
      have hx1 : q = x.1 := by cases h; rfl
      have := hD.1 k wr.length x (q, e0) h1 hq hx1.symm
      omega
    · omega
  refine va_callv hr hS (fun x _ h => hFc x h) hFc (fun u t H1 locs1 ht hvm hw hB hz hk hS => ?_)
  obtain ⟨hP1, hD1⟩ := hB
  rw [ht] at hP1
  refine kk u H1 locs1 hw (va_P.app ?_ hP1) (va_D.app ?_ (hD1.weaken (fun _ _ _ h => hFc _ h)) ?_) hS
  · intro k x hx
    exact (hP k x (hwr k x hx).1).kept (hk x.1 (hap k x hx).1 (hap k x hx).2)
  · refine ⟨fun i j x y hx hy e => hD.1 i j x y (hwr i x hx).1 (hwr j y hy).1 e, fun k x hx => hD.2 k x (hwr k x hx).1⟩
  · intro i j x y hx hy e
    have := (hap i x hx).2
    rw [e] at this
    exact this (hD1.2 j y hy)
theorem nRunI {y : MethodName} {wsy ws' : List Cond} {bytes : ByteArray} {maxL index mc ms : Nat} {rm : Room} {As st0 : List Value} {q : Nat} {e0 : va_E} {wf : (Nat → Nat) → va_W} (n : Nat) (S : CallFix p m c cc nL s args Ts own) (hK : va_K D vwCl (gTy cy) s) (hN : gNw s) (hO : va_AO RX2 s) (hP : va_P D vwCl (wr ++ [(q, e0)]) H) (hM : nMet l y wsy rm D cy (.ref q :: As) (q, e0) H.size wf mc ms) (hG : GoodIn Ts wsy) (hw : wsy = Cond.code y bytes maxL none :: ws') (hrc : rm.cells = mc) (hrs : rm.slots = ms) (hini : Cond.initialized y.cls ∈ Ts) (hl : Cond.methodLink own index y ∈ Ts) (hin : Cond.instanceMethod y ∈ Ts) (hy1 : y.name = "<init>")
    (hd : y.cls ≠ "java/lang/invoke/MethodHandle" ∧ y.cls ≠ "java/lang/invoke/VarHandle" ∧ (parseMethodDescriptor y.desc).map (fun d => d.parameters.length) = some n) (hR : rm.frames + 1 ≤ R.frames ∧ 8 + (maxL + 11) + rm.locals ≤ R.locals) (hn : As.length = n) (hsize : ls.size = nL) (hst : st0 = As.reverse ++ .ref q :: rest) (hW : (rest.map fun v => v.category).sum ≤ 8) (hdg : decode cc pc = .ok (.invokespecial index, 3)) (hf : cells + mc ≤ R.cells ∧ slots + ms ≤ R.slots) :
    va_Run p l e R s m args below meth c H locs cells slots mc ms (F0 m pc ls st0) rest (nQ D (q, e0) H.size wf (Value.ref q :: As).toArray) (va_A [(q, e0)] H.size) := by
  have hq : (wr ++ [(q, e0)])[wr.length]? = some (q, e0) := by simp
  have hPc : va_P D vwCl [(q, e0)] H := by
    intro k x hx
    have hk : k < 1 := (List.getElem?_eq_some_iff.mp hx).1
    have hk0 : k = 0 := by omega
    subst hk0
    cases hx
    exact hP wr.length _ hq
  have hDc : va_D (fun _ => True) [(q, e0)] := by
    refine ⟨fun i j x y hx hy _ => ?_, fun _ _ _ => trivial⟩
    have h1 : i < 1 := (List.getElem?_eq_some_iff.mp hx).1
    have h2 : j < 1 := (List.getElem?_eq_some_iff.mp hy).1
    omega
  exact va_runI S hM (cwI n S.2.2.2.2 hG hw hrc hrs (S.2.2.2.2 _ hini) (S.2.2.2.2 _ hl) (S.2.2.2.2 _ hin) hy1 hd hR) ⟨nPre_blind, fun U hU hW => ⟨rfl, by rw [hU], va_K.moved hW.alike hK, gNw.warm hW hN, by rw [hU]; exact hPc, hDc, va_AO.moved hW.alike hO⟩⟩ rfl hn hsize hst (lv_room hW) hdg hf
theorem nRunIN {host : String} {y : MethodName} {wsy ws' : List Cond} {bytes : ByteArray} {maxL index mc ms : Nat} {rm : Room} {As st0 : List Value} {q : Nat} {e0 : va_E} {wf : (Nat → Nat) → va_W} (n : Nat) (S : CallFix p m c cc nL s args Ts own) (hK : va_K D vwCl (gTy cy) s) (hN : gNw s) (hO : va_AO RX2 s) (hP : va_P D vwCl (wr ++ [(q, e0)]) H) (hM : nMet l y wsy rm D cy (.ref q :: As) (q, e0) H.size wf mc ms) (hG : GoodIn Ts wsy) (hw : wsy = Cond.code y bytes maxL none :: ws') (hrc : rm.cells = mc) (hrs : rm.slots = ms) (hini : Cond.initialized y.cls ∈ Ts) (hl : (own, index, y, host) ∈ gNm) (hin : Cond.instanceMethod y ∈ Ts) (hy1 : y.name = "<init>")
    (hd : y.cls ≠ "java/lang/invoke/MethodHandle" ∧ y.cls ≠ "java/lang/invoke/VarHandle" ∧ (parseMethodDescriptor y.desc).map (fun d => d.parameters.length) = some n) (hR : rm.frames + 1 ≤ R.frames ∧ 8 + (maxL + 11) + rm.locals ≤ R.locals) (hn : As.length = n) (hsize : ls.size = nL) (hst : st0 = As.reverse ++ .ref q :: rest) (hW : (rest.map fun v => v.category).sum ≤ 8) (hdg : decode cc pc = .ok (.invokespecial index, 3)) (hf : cells + mc ≤ R.cells ∧ slots + ms ≤ R.slots) :
    va_Run p l e R s m args below meth c H locs cells slots mc ms (F0 m pc ls st0) rest (nQ D (q, e0) H.size wf (Value.ref q :: As).toArray) (va_A [(q, e0)] H.size) := by
  have hq : (wr ++ [(q, e0)])[wr.length]? = some (q, e0) := by simp
  have hPc : va_P D vwCl [(q, e0)] H := by
    intro k x hx
    have hk : k < 1 := (List.getElem?_eq_some_iff.mp hx).1
    have hk0 : k = 0 := by omega
    subst hk0
    cases hx
    exact hP wr.length _ hq
  have hDc : va_D (fun _ => True) [(q, e0)] := by
    refine ⟨fun i j x y hx hy _ => ?_, fun _ _ _ => trivial⟩
    have h1 : i < 1 := (List.getElem?_eq_some_iff.mp hx).1
    have h2 : j < 1 := (List.getElem?_eq_some_iff.mp hy).1
    omega
  exact va_runIN S hM ⟨va_cnB n S.2.2.2.2 hG hw hrc hrs (hN.2 _ hl) (S.2.2.2.2 _ hini) hd hR, hy1, S.2.2.2.2 _ hin⟩ ⟨nPre_blind, fun U hU hW => ⟨rfl, by rw [hU], va_K.moved hW.alike hK, gNw.warm hW hN, by rw [hU]; exact hPc, hDc, va_AO.moved hW.alike hO⟩⟩ rfl hn hsize hst (lv_room hW) hdg hf
theorem nK_I {cA : ClassId} {tys : List (ClassId × FieldType)} (h : va_K D vwCl (gTy cy ++ [(cA, .int)]) s) : cA = cy.1 := Option.some.inj ((h.2 3 _ rfl).2.symm.trans (h.2 0 _ rfl).2)
theorem nK_J {cA : ClassId} (h : va_K D vwCl (gTy cy ++ [(cA, .long)]) s) : cA = cy.2.1 := Option.some.inj ((h.2 3 _ rfl).2.symm.trans (h.2 1 _ rfl).2)
theorem nK_O {cA : ClassId} (h : va_K D vwCl (gTy cy ++ [(cA, .object RX2)]) s) : cA = cy.2.2 := by
  obtain ⟨k1, c1, a1, a2, a3, a4⟩ := (h.2 3 _ rfl).2
  obtain ⟨k2, c2, b1, b2, b3, b4⟩ := (h.2 2 _ rfl).2
  exact Option.some.inj (a4.symm.trans b4)
theorem n_newI (S : CallFix p m c cc nL s args Ts own) (harr : Cond.arrayClass .int ∈ Ts) (hK : va_K D vwCl (gTy cy) s) (hP : va_P D vwCl ws H) (hD : va_D A ws) (hS : va_S A H0 H locs) (hA : ∀ q, H0.size ≤ q → A q) {n : Int32} {N : Nat} (hn : ¬ n < 0) (hN : n.toNatClampNeg = N) (hbytes : N * componentBytes .int ≤ 536870912) (hcells : cells + 1 ≤ R.cells) (hslots : slots + N ≤ R.slots) (hdg : decode cc pc = .ok (.newarray .int, 2))
    (kk : ∀ (q : Nat) (H1 : Heap), va_P D vwCl (ws ++ [(q, .inl (cy.1, N, .inl (fun _ => 0)))]) H1 → va_D A (ws ++ [(q, .inl (cy.1, N, .inl (fun _ => 0)))]) → va_S A H0 H1 locs → W p l e R s m args below meth c H1 locs (cells + 1) (slots + N) Q (F0 m (pc + 2) ls (.ref q :: rest))) : W p l e R s m args below meth c H locs cells slots Q (F0 m pc ls (.int n :: rest)) := by
  refine va_newa (atype := .int) (ty := .int) (a0 := (N, .inl (fun _ => 0))) S.1 S.2.1 (S.2.2.2.2 _ harr) rfl hK hP hD hS hA (fun _ => rfl) hn hN hbytes hcells hslots hdg (fun q cA H1 hK' hP hD hS => ?_)
  obtain rfl := nK_I (tys := []) hK'
  exact kk q H1 hP hD hS
theorem n_newJ (S : CallFix p m c cc nL s args Ts own) (harr : Cond.arrayClass .long ∈ Ts) (hK : va_K D vwCl (gTy cy) s) (hP : va_P D vwCl ws H) (hD : va_D A ws) (hS : va_S A H0 H locs) (hA : ∀ q, H0.size ≤ q → A q) {n : Int32} {N : Nat} (hn : ¬ n < 0) (hN : n.toNatClampNeg = N) (hbytes : N * componentBytes .long ≤ 536870912) (hcells : cells + 1 ≤ R.cells) (hslots : slots + N ≤ R.slots) (hdg : decode cc pc = .ok (.newarray .long, 2))
    (kk : ∀ (q : Nat) (H1 : Heap), va_P D vwCl (ws ++ [(q, .inl (cy.2.1, N, .inr (.inl (fun _ => 0))))]) H1 → va_D A (ws ++ [(q, .inl (cy.2.1, N, .inr (.inl (fun _ => 0))))]) → va_S A H0 H1 locs → W p l e R s m args below meth c H1 locs (cells + 1) (slots + N) Q (F0 m (pc + 2) ls (.ref q :: rest))) : W p l e R s m args below meth c H locs cells slots Q (F0 m pc ls (.int n :: rest)) := by
  refine va_newa (atype := .long) (ty := .long) (a0 := (N, .inr (.inl (fun _ => 0)))) S.1 S.2.1 (S.2.2.2.2 _ harr) rfl hK hP hD hS hA (fun _ => rfl) hn hN hbytes hcells hslots hdg (fun q cA H1 hK' hP hD hS => ?_)
  obtain rfl := nK_J hK'
  exact kk q H1 hP hD hS
end NC
theorem nEnter {l : Launch} {y : MethodName} {ws ws' : List Cond} {rm : Room} {cc : ByteArray} {maxL : Nat} {As : List Value} {D : va_G} {cy : gCy} {b0 : Nat × va_E} {sz mc ms : Nat} {wf : (Nat → Nat) → va_W} (hy : plainName y.cls = true) (hn : y.name = "<init>") (hw : ws = Cond.code y cc maxL none :: ws') (hlen : (lg_sl As).length ≤ maxL)
    (body : ∀ (p : Program) (e : Env) (s : State) (m : MethodId) (below : List Frame) (meth : Method) (c : Code) (ls : Array Slot) (A : Nat → Prop), CallFix p m c cc maxL s As.toArray ws y.cls → meth.sig.returnType = none → meth.locks = false → meth.name = "<init>" → va_K D vwCl (gTy cy) s → gNw s → va_AO RX2 s → va_P D vwCl [b0] s.heap → va_D A [b0] → va_S A s.heap s.heap [] → (∀ q, s.heap.size ≤ q → A q) → lv_has ls maxL (lv_args 0 As) →
      W p l e rm s m As.toArray below meth c s.heap [] 0 0 (MQ below (va_Qv (fun u : Nat → Nat => u 0 = b0.1) (fun u t => va_P D vwCl (wf u) t.heap ∧ va_D A (wf u)) A) As.toArray s mc ms A) (F0 m 0 ls [])) : nMet l y ws rm D cy As b0 sz wf mc ms := by
  refine Met.ofW (cc := cc) (maxL := maxL) (ret := none) hy hw ?_
  intro p e s m args below meth c s₁ B hml hv
  obtain ⟨rfl, hsz, hK, hN, hP, hD, hO⟩ := hv
  subst hsz
  rw [lg_entry_eq]
  exact body p e s m below meth c _ (va_A [b0] s.heap.size) ⟨B.exec, B.bytes, hml, findClass_of_methodNamed B.named, atoms_spec (ws := ws) B.pre⟩ B.returns B.notSynchronized ((name_of_methodNamed B.named B.method).1.trans hn) hK hN hO hP hD.self va_S.rf (fun _ h => Or.inr h) (lv_entry As hlen)
theorem nArr {cA : ClassId} {n : Nat} {f g : Nat → Option Nat} (h : ∀ j, j < n → f j = g j) : vp_cell cA (n, .inr (.inr (.inr (.inr f)))) = vp_cell cA (n, .inr (.inr (.inr (.inr g)))) := by
  rw [vp_cell_q, vp_cell_q]
  unfold arrV
  congr 2
  funext j
  show va_rf (f j.val) = va_rf (g j.val)
  rw [h j.val j.isLt]
theorem nRe {D : va_G} {cl : List vw_C} {A : Nat → Prop} {ws : va_W} {H : Heap} {k a n : Nat} {cA : ClassId} {f : Nat → Option Nat} (g : Nat → Option Nat) (hP : va_P D cl ws H) (hD : va_D A ws) (ha : ws[k]? = some (a, .inl (cA, n, .inr (.inr (.inr (.inr f)))))) (h : ∀ j, j < n → f j = g j) : va_P D cl (ws.set k (a, .inl (cA, n, .inr (.inr (.inr (.inr g)))))) H ∧ va_D A (ws.set k (a, .inl (cA, n, .inr (.inr (.inr (.inr g)))))) := by
  refine ⟨hP.set hD ha ?_ (fun _ _ => rfl), hD.set ha⟩
  show H[a]? = some (vp_cell _ _)
  rw [← nArr h]
  exact hP k _ ha
