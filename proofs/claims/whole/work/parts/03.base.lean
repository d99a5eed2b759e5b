/-! the worlds of the class and of the reference: a shape (kinds and lengths, by places), addresses, and a memory of ints and longs by places -/
abbrev gMem : Type := (Nat → Nat → Int32) × (Nat → Nat → Int64)
abbrev gCy : Type := ClassId × ClassId × ClassId
abbrev gSh : Type := List (Nat × Nat)
def gE (cy : gCy) (q : Nat × Nat) (k : Nat) (ad : Nat → Nat) (i : Nat → Int32) (j : Nat → Int64) : va_E := match q.1 with
  | 1 => .inl (cy.1, q.2, .inl i)
  | 2 => .inl (cy.2.1, q.2, .inr (.inl j))
  | 3 => .inl (cy.2.2, q.2, .inr (.inr (.inr (.inr (fun b => some (ad (k + 1 + 4 * b)))))))
  | 4 => .inr (2, [.ref (ad (k + 1)), .ref (ad (k + 2)), .ref (ad (k + 3)), .int (i 3), .int (i 4)])
  | 5 => .inr (4, [.ref (ad (k + 1)), .ref (ad (k + 2)), .ref (ad (k + 3)), .ref (ad (k + 4)), .ref (ad (k + 5)), .ref (ad (k + 6)), .int (i 6)])
  | 6 => .inr (3, [.ref (ad (k + 1)), .ref (ad (k + 2)), .int (i 2), .long (j 3), .ref (ad (k + 3)), .int (i 5)])
  | 7 => .inr (1, [.long (j 0), .long (j 1)])
  | 8 => .inr (0, [.ref (ad (k + 1)), .ref (ad (k + 2)), .int (i 2)])
  | 9 => .inr (5, [.ref (ad (k + 1)), .ref (ad (k + 5)), .ref (ad (k + 9)), .ref (ad (k + 13)), .int (i 4)])
  | 10 => .inr (6, [.ref (ad (k + 1)), .ref (ad (k + 26)), .ref (ad (k + 30)), .ref (ad (k + 34)), .ref (ad (k + 41)), .ref (ad (k + 45)), .ref (ad (k + 49)), .ref (ad (k + 50)), .ref (ad (k + 53))])
  | _ => .inr (7, [.ref (ad (k + 1)), .ref (ad (k + 2)), .ref (ad (k + 3)), .ref (ad (k + 4)), .int (i 4), .ref (ad (k + 5)), .ref (ad (k + 6)), .ref (ad (k + 7)), .ref (ad (k + 8)), .ref (ad (k + 9)), .ref (ad (k + 10)), .ref (ad (k + 11)), .ref (ad (k + 12)), .ref (ad (k + 13)), .int (i 14), .ref (ad (k + 14)), .ref (ad (k + 15)), .ref (ad (k + 16)), .int (i 18), .ref (ad (k + 17)), .ref (ad (k + 18)), .int (i 21), .int (i 22), .ref (ad (k + 19)), .ref (ad (k + 20)), .ref (ad (k + 21)), .ref (ad (k + 22)), .int (i 27), .ref (ad (k + 23)), .ref (ad (k + 24)), .ref (ad (k + 25)), .int (i 31), .ref (ad (k + 26)), .ref (ad (k + 27))])
def gL (sh : gSh) (cy : gCy) (ad : Nat → Nat) (M : gMem) : va_W := (List.range sh.length).map (fun k => (ad k, gE cy (sh.getD k (0, 0)) k ad (M.1 k) (M.2 k)))
theorem gSh_lt {sh : gSh} {k : Nat} {q : Nat × Nat} (h : sh[k]? = some q) : k < sh.length := (List.getElem?_eq_some_iff.mp h).1
theorem gL_at {sh : gSh} {cy : gCy} {ad : Nat → Nat} {M : gMem} {k : Nat} {q : Nat × Nat} (h : sh[k]? = some q) : (gL sh cy ad M)[k]? = some (ad k, gE cy q k ad (M.1 k) (M.2 k)) := by
  obtain ⟨hk, hq⟩ := List.getElem?_eq_some_iff.mp h
  simp [gL, hk, hq]
theorem gL_in {sh : gSh} {cy : gCy} {ad : Nat → Nat} {M : gMem} {k : Nat} {q : Nat × va_E} (h : (gL sh cy ad M)[k]? = some q) : k < sh.length ∧ q.1 = ad k := by
  have h1 := (List.getElem?_eq_some_iff.mp h).1
  have hk : k < sh.length := by simpa [gL] using h1
  refine ⟨hk, ?_⟩
  simp [gL, hk] at h
  rw [← h]
theorem gL_set {sh : gSh} {cy : gCy} {ad : Nat → Nat} {M M' : gMem} {k : Nat} {q : Nat × Nat} {e : va_E} (h : sh[k]? = some q) (he : gE cy q k ad (M'.1 k) (M'.2 k) = e) (ho : ∀ j, j ≠ k → M'.1 j = M.1 j ∧ M'.2 j = M.2 j) : (gL sh cy ad M).set k (ad k, e) = gL sh cy ad M' := by
  have hk := gSh_lt h
  apply List.ext_getElem?
  intro j
  rw [List.getElem?_set]
  by_cases hj : k = j
  · subst hj
    rw [gL_at (M := M') h, he]
    simp [gL, hk]
  · rw [if_neg hj]
    by_cases hl : j < sh.length
    · have hq : sh[j]? = some sh[j] := List.getElem?_eq_getElem hl
      rw [gL_at hq, gL_at hq, (ho j (Ne.symm hj)).1, (ho j (Ne.symm hj)).2]
    · have z : ∀ X : gMem, (gL sh cy ad X)[j]? = none := fun X => List.getElem?_eq_none (by simpa [gL] using Nat.not_lt.mp hl)
      rw [z, z]
def sI (M : gMem) (k j : Nat) (v : Int32) : gMem := (va_up M.1 k (upd (M.1 k) j v), M.2)
def sJ (M : gMem) (k j : Nat) (v : Int64) : gMem := (M.1, va_up M.2 k (vp_updL (M.2 k) j v))
theorem sI_off {M : gMem} {k j : Nat} {v : Int32} : ∀ x, x ≠ k → (sI M k j v).1 x = M.1 x ∧ (sI M k j v).2 x = M.2 x := fun _ hx => ⟨va_up_ne _ _ hx, rfl⟩
theorem sJ_off {M : gMem} {k j : Nat} {v : Int64} : ∀ x, x ≠ k → (sJ M k j v).1 x = M.1 x ∧ (sJ M k j v).2 x = M.2 x := fun _ hx => ⟨rfl, va_up_ne _ _ hx⟩
theorem sI_at {M : gMem} {k j : Nat} {v : Int32} : (sI M k j v).1 k = upd (M.1 k) j v := va_up_self _ _ _
theorem sJ_at {M : gMem} {k j : Nat} {v : Int64} : (sJ M k j v).2 k = vp_updL (M.2 k) j v := va_up_self _ _ _
abbrev gTy (cy : gCy) : List (ClassId × FieldType) := [(cy.1, .int), (cy.2.1, .long), (cy.2.2, .object RX2)]
def gNf : List (String × Nat × String × String × String × String) := [("PrefixLeader", 179, "PrefixLeader$Tree", "size", "I", "PrefixLeader"), ("PrefixLeader$Difference", 36, "PrefixLeader$Spans", "goal", "[I", "PrefixLeader"), ("PrefixLeader$Difference", 22, "PrefixLeader$Spans", "size", "I", "PrefixLeader"), ("PrefixLeader", 135, "PrefixLeader$Spans", "size", "I", "PrefixLeader"), ("PrefixLeader", 151, "PrefixLeader$Difference", "start", "J", "PrefixLeader"), ("PrefixLeader", 147, "PrefixLeader$Difference", "amount", "J", "PrefixLeader"), ("PrefixLeader", 165, "PrefixLeader$Cover", "size", "I", "PrefixLeader"), ("PrefixLeader", 171, "PrefixLeader$Way", "size", "I", "PrefixLeader")]
def gNm : List (String × Nat × MethodName × String) := [("PrefixLeader", 27, ⟨"PrefixLeader$Tree", "<init>", "()V"⟩, "PrefixLeader"), ("PrefixLeader", 34, ⟨"PrefixLeader$Spans", "<init>", "()V"⟩, "PrefixLeader"), ("PrefixLeader", 44, ⟨"PrefixLeader$Difference", "<init>", "()V"⟩, "PrefixLeader"), ("PrefixLeader", 51, ⟨"PrefixLeader$Cover", "<init>", "()V"⟩, "PrefixLeader"), ("PrefixLeader", 58, ⟨"PrefixLeader$Way", "<init>", "()V"⟩, "PrefixLeader"), ("PrefixLeader$Lines", 31, ⟨"PrefixLeader", "wide", "(I)J"⟩, "PrefixLeader"), ("PrefixLeader$Lines", 52, ⟨"PrefixLeader", "begins", "(III)Z"⟩, "PrefixLeader"), ("PrefixLeader$Lines", 79, ⟨"PrefixLeader", "bitAt", "(I)I"⟩, "PrefixLeader"), ("PrefixLeader$Tree", 65, ⟨"PrefixLeader", "mask", "(I)I"⟩, "PrefixLeader"), ("PrefixLeader$Tree", 84, ⟨"PrefixLeader", "bitAt", "(I)I"⟩, "PrefixLeader"), ("PrefixLeader$Lines", 35, ⟨"PrefixLeader", "mask", "(I)I"⟩, "PrefixLeader"), ("PrefixLeader$Way", 86, ⟨"PrefixLeader", "begins", "(III)Z"⟩, "PrefixLeader"), ("PrefixLeader$Strides", 25, ⟨"PrefixLeader", "mask", "(I)I"⟩, "PrefixLeader"), ("PrefixLeader$Strides", 36, ⟨"PrefixLeader", "wide", "(I)J"⟩, "PrefixLeader"), ("PrefixLeader$Strides", 47, ⟨"PrefixLeader", "begins", "(III)Z"⟩, "PrefixLeader")]
def gNw (U : State) : Prop := (∀ q ∈ gNf, va_Nw (.fieldLinkNest q.1 q.2.1 q.2.2.1 q.2.2.2.1 q.2.2.2.2.1 q.2.2.2.2.2) U) ∧ ∀ q ∈ gNm, va_Nw (.methodLinkNest q.1 q.2.1 q.2.2.1 q.2.2.2) U
theorem gNw.warm {s U : State} (hW : s.WarmedH U.vm) (h : gNw s) : gNw U := ⟨fun q hq => (h.1 q hq).warmF hW, fun q hq => (h.2 q hq).warmM hW⟩
theorem gNw.same {s U : State} (hv : s.vm = U.vm) (h : gNw s) : gNw U := ⟨fun q hq => (h.1 q hq).same rfl hv, fun q hq => (h.2 q hq).same rfl hv⟩
def gA (sh : gSh) (ad : Nat → Nat) : Nat → Prop := fun q => ∃ k, k < sh.length ∧ q = ad k
def gInj (sh : gSh) (ad : Nat → Nat) : Prop := ∀ i j, i < sh.length → j < sh.length → ad i = ad j → i = j
theorem gD {sh : gSh} {cy : gCy} {ad : Nat → Nat} {M : gMem} (hi : gInj sh ad) : va_D (gA sh ad) (gL sh cy ad M) := by
  refine ⟨fun i j p q hp hq e => ?_, fun k q h => ?_⟩
  · have h1 := gL_in hp
    have h2 := gL_in hq
    exact hi i j h1.1 h2.1 (by rw [← h1.2, ← h2.2, e])
  · have h1 := gL_in h
    exact ⟨k, h1.1, h1.2⟩
/-- what a method of a world starts from and ends with -/
def gP (sh : gSh) (D : va_G) (cy : gCy) (ad : Nat → Nat) (M : gMem) (U : State) : Prop := va_K D vwCl (gTy cy) U ∧ gNw U ∧ gInj sh ad ∧ va_P D vwCl (gL sh cy ad M) U.heap
/-- and what holds within it -/
def gW (sh : gSh) (D : va_G) (cy : gCy) (ad : Nat → Nat) (s : State) (H0 : Heap) (M : gMem) (H : Heap) (locs : List Loc) : Prop := va_K D vwCl (gTy cy) s ∧ gNw s ∧ gInj sh ad ∧ va_P D vwCl (gL sh cy ad M) H ∧ va_S (gA sh ad) H0 H locs
abbrev gR (f n : Nat) : Room := { frames := f, cells := 0, slots := 0, locals := n }
abbrev gQi (sh : gSh) (D : va_G) (cy : gCy) (ad : Nat → Nat) (r : Int32) (M : gMem) : Array Value → State → Outcome → State → Prop := va_Qi (fun (r' : Int32) (u : gMem) => r' = r ∧ u = M) (fun u t => gP sh D cy ad u t) (gA sh ad)
abbrev gQl (sh : gSh) (D : va_G) (cy : gCy) (ad : Nat → Nat) (r : Int64) (M : gMem) : Array Value → State → Outcome → State → Prop := va_Ql (fun (r' : Int64) (u : gMem) => r' = r ∧ u = M) (fun u t => gP sh D cy ad u t) (gA sh ad)
abbrev gQv (sh : gSh) (D : va_G) (cy : gCy) (ad : Nat → Nat) (M : gMem) : Array Value → State → Outcome → State → Prop := va_Qv (fun (u : gMem) => u = M) (fun u t => gP sh D cy ad u t) (gA sh ad)
theorem gP_blind {sh : gSh} {D : va_G} {cy : gCy} {ad : Nat → Nat} {M : gMem} {As : List Value} : FrameBlind (va_Pc As (gP sh D cy ad M)) := fun a U g mk h => ⟨h.1, va_K.moved (u := U) (U := U.calling g mk a) (Vm.Alike.refl U.vm) h.2.1, gNw.same rfl h.2.2.1, h.2.2.2.1, h.2.2.2.2⟩
def ck {α : Type} (q : Bool) (x : Option α) : Option α := if q = true then x else none
theorem ck_ok {α : Type} {q : Bool} {x : Option α} {r : α} (h : ck q x = some r) : q = true ∧ x = some r := by
  unfold ck at h
  by_cases hq : q = true
  · rw [if_pos hq] at h; exact ⟨hq, h⟩
  · rw [if_neg hq] at h; cases h
theorem ck_t {α : Type} {q : Bool} {x : Option α} (h : q = true) : ck q x = x := if_pos h
theorem bd_ok {α β : Type} {x : Option α} {f : α → Option β} {r : β} (h : x.bind f = some r) : ∃ a, x = some a ∧ f a = some r := Option.bind_eq_some_iff.mp h
/-- an index within its row -/
def inb (i : Int32) (n : Nat) : Bool := decide (¬ (i < 0 ∨ n ≤ i.toNatClampNeg))
theorem inb_ok {i : Int32} {n : Nat} (h : inb i n = true) : vp_in i n := show ¬ (i < 0 ∨ n ≤ i.toNatClampNeg) from of_decide_eq_true h
theorem inb_of {i : Int32} {n : Nat} (h : vp_in i n) : inb i n = true := decide_eq_true (show ¬ (i < 0 ∨ n ≤ i.toNatClampNeg) from h)
def nz (x : Int32) : Bool := decide (¬ x = 0)
def nzL (x : Int64) : Bool := decide (¬ x = 0)
theorem nz_ok {x : Int32} (h : nz x = true) : ¬ x = 0 := of_decide_eq_true h
theorem nzL_ok {x : Int64} (h : nzL x = true) : ¬ x = 0 := of_decide_eq_true h
/-- a truth value -/
def tv (x : Int32) : Bool := decide (x = 0 ∨ x = 1)
theorem tv_ok {x : Int32} (h : tv x = true) : narrow .boolean (.int x) = .int x := by
  rcases (of_decide_eq_true h : x = 0 ∨ x = 1) with rfl | rfl <;> rfl
def FU : Nat := 100000
def nmd {α β : Type} (a : α) (f : α → Option β) : Option β := f a
theorem nmd_ok {α β : Type} {a : α} {f : α → Option β} {r : β} (h : nmd a f = some r) : ∃ x, x = a ∧ f x = some r := ⟨a, rfl, h⟩
abbrev ush (x y : Int32) : Int32 := (x.toUInt32 >>> (y.toUInt32 &&& Int32.toUInt32 31)).toInt32
theorem cmp_lt {x y : Int64} : lg_cmp x y < 0 ↔ x < y := by
  unfold lg_cmp
  by_cases h : x > y
  · rw [if_pos h]; exact ⟨fun q => absurd q (by decide), fun q => absurd h (by rw [gt_iff_lt, Int64.lt_iff_toInt_lt]; rw [Int64.lt_iff_toInt_lt] at q; omega)⟩
  · rw [if_neg h]
    by_cases h2 : x = y
    · rw [if_pos h2]; exact ⟨fun q => absurd q (by decide), fun q => by rw [h2, Int64.lt_iff_toInt_lt] at q; omega⟩
    · rw [if_neg h2]
      refine ⟨fun _ => ?_, fun _ => by decide⟩
      rw [gt_iff_lt, Int64.lt_iff_toInt_lt] at h
      have h3 : x.toInt ≠ y.toInt := fun q => h2 (Int64.toInt_inj.mp q)
      rw [Int64.lt_iff_toInt_lt]; omega
theorem cmp_gt {x y : Int64} : 0 < lg_cmp x y ↔ y < x := by
  unfold lg_cmp
  by_cases h : x > y
  · rw [if_pos h]; exact ⟨fun _ => h, fun _ => by decide⟩
  · rw [if_neg h]
    refine ⟨fun q => ?_, fun q => absurd q h⟩
    by_cases h2 : x = y
    · rw [if_pos h2] at q; exact absurd q (by decide)
    · rw [if_neg h2] at q; exact absurd q (by decide)
theorem i32_nlt {a b : Int32} : ¬ a < b ↔ b ≤ a := by rw [Int32.lt_iff_toInt_lt, Int32.le_iff_toInt_le]; omega
theorem i64_nlt {a b : Int64} : ¬ a < b ↔ b ≤ a := by rw [Int64.lt_iff_toInt_lt, Int64.le_iff_toInt_le]; omega
theorem cmp_ge {x y : Int64} : 0 ≤ lg_cmp x y ↔ y ≤ x := by rw [← i32_nlt, ← i64_nlt, cmp_lt]
theorem cmp_le {x y : Int64} : lg_cmp x y ≤ 0 ↔ x ≤ y := by rw [← i32_nlt, ← i64_nlt, cmp_gt]
theorem cmp_eq {x y : Int64} : lg_cmp x y = 0 ↔ x = y := by
  unfold lg_cmp
  by_cases h : x > y
  · rw [if_pos h]; exact ⟨fun q => absurd q (by decide), fun q => by rw [q, gt_iff_lt, Int64.lt_iff_toInt_lt] at h; omega⟩
  · rw [if_neg h]
    by_cases h2 : x = y
    · rw [if_pos h2]; exact ⟨fun _ => h2, fun _ => rfl⟩
    · rw [if_neg h2]; exact ⟨fun q => absurd q (by decide), fun q => absurd q h2⟩
theorem cmp_ne {x y : Int64} : ¬ lg_cmp x y = 0 ↔ ¬ x = y := not_congr cmp_eq
theorem tb_ne {x : Int32} {k : Int32} (h : ¬ x = k) : x.toInt ≠ k.toInt := fun q => h (Int32.toInt_inj.mp q)
theorem tb3 {x : Int32} (h0 : ¬ x = 0) (h1 : ¬ x = 1) (h2 : ¬ x = 2) : x.toInt < 0 ∨ 2 < x.toInt := by
  have a := tb_ne h0; have b := tb_ne h1; have c := tb_ne h2
  have e0 : (0 : Int32).toInt = 0 := rfl
  have e1 : (1 : Int32).toInt = 1 := rfl
  have e2 : (2 : Int32).toInt = 2 := rfl
  omega
theorem tb4 {x : Int32} (h0 : ¬ x = 0) (h1 : ¬ x = 1) (h2 : ¬ x = 2) (h3 : ¬ x = 3) : x.toInt < 0 ∨ 3 < x.toInt := by
  have a := tb_ne h0; have b := tb_ne h1; have c := tb_ne h2; have d := tb_ne h3
  have e0 : (0 : Int32).toInt = 0 := rfl
  have e1 : (1 : Int32).toInt = 1 := rfl
  have e2 : (2 : Int32).toInt = 2 := rfl
  have e3 : (3 : Int32).toInt = 3 := rfl
  omega
section GB
variable {p : Program} {l : Launch} {e : Env} {R : Room} {s : State} {m : MethodId} {args : Array Value} {below : List Frame} {meth : Method} {c : Code} {H H0 : Heap} {locs : List Loc} {cells slots : Nat} {Q : State → Prop}
variable {cc : ByteArray} {pc nL : Nat} {ls : Array Slot} {rest : List Value} {sh : gSh} {D : va_G} {cy : gCy} {ad : Nat → Nat} {M M' : gMem} {Ts : List Cond} {own : String}
theorem gNmI {x y : Int32} (h : x = y) (k : W p l e R s m args below meth c H locs cells slots Q (F0 m pc ls (.int x :: rest))) : W p l e R s m args below meth c H locs cells slots Q (F0 m pc ls (.int y :: rest)) := h ▸ k
theorem gNmJ {x y : Int64} (h : x = y) (k : W p l e R s m args below meth c H locs cells slots Q (F0 m pc ls (.long x :: rest))) : W p l e R s m args below meth c H locs cells slots Q (F0 m pc ls (.long y :: rest)) := h ▸ k
theorem gEnter {y : MethodName} {ws ws' : List Cond} {rm : Room} {maxL : Nat} {ret : Option FieldType} {As : List Value} {Qc : Array Value → State → Outcome → State → Prop} (hy : plainName y.cls = true) (hw : ws = Cond.code y cc maxL ret :: ws') (hlen : (lg_sl As).length ≤ maxL)
    (body : ∀ (p : Program) (e : Env) (s : State) (m : MethodId) (below : List Frame) (meth : Method) (c : Code) (ls : Array Slot), CallFix p m c cc maxL s As.toArray ws y.cls → meth.sig.returnType = ret → meth.locks = false → gW sh D cy ad s s.heap M s.heap [] → lv_has ls maxL (lv_args 0 As) →
      W p l e rm s m As.toArray below meth c s.heap [] 0 0 (MQ below Qc As.toArray s 0 0 (gA sh ad)) (F0 m 0 ls [])) : Met l y ws rm (va_Pc As (gP sh D cy ad M)) Qc 0 0 (gA sh ad) := by
  refine Met.ofW (cc := cc) (maxL := maxL) (ret := ret) hy hw ?_
  intro p e s m args below meth c s₁ B hml hv
  obtain ⟨rfl, hK, hN, hI, hP⟩ := hv
  rw [lg_entry_eq]
  exact body p e s m below meth c _ ⟨B.exec, B.bytes, hml, findClass_of_methodNamed B.named, atoms_spec (ws := ws) B.pre⟩ B.returns B.notSynchronized ⟨hK, hN, hI, hP, va_S.rf⟩ (lv_entry As hlen)
theorem gW.P (C : gW sh D cy ad s H0 M H locs) : ∀ U : State, U.heap = H → s.WarmedH U.vm → gP sh D cy ad M U := fun U hU hW => ⟨va_K.moved hW.alike C.1, gNw.warm hW C.2.1, C.2.2.1, by rw [hU]; exact C.2.2.2.1⟩
theorem gReti {v r : Int32} (S : CallFix p m c cc nL s args Ts own) (hr : meth.sig.returnType = some .int) (hlk : meth.locks = false) (C : gW sh D cy ad s s.heap M H locs) (hv : v = r) (hM : M = M') (hd : decode cc pc = .ok (.ireturn, 1)) : W p l e R s m args below meth c H locs 0 0 (MQ below (gQi sh D cy ad r M') args s 0 0 (gA sh ad)) (F0 m pc ls [.int v]) :=
  W.iret S.1 S.2.1 hr (fun t ht hW => ⟨⟨v, M, rfl, ⟨hv, hM⟩, C.P t ht hW⟩, C.2.2.2.2.F ht⟩) C.2.2.2.2.2.2 hd hlk
theorem gRetz {v r : Int32} (S : CallFix p m c cc nL s args Ts own) (hr : meth.sig.returnType = some .boolean) (hlk : meth.locks = false) (C : gW sh D cy ad s s.heap M H locs) (hz : narrow .boolean (.int v) = .int v) (hv : v = r) (hM : M = M') (hd : decode cc pc = .ok (.ireturn, 1)) : W p l e R s m args below meth c H locs 0 0 (MQ below (gQi sh D cy ad r M') args s 0 0 (gA sh ad)) (F0 m pc ls [.int v]) :=
  W.zret S.1 S.2.1 hr hz (fun t ht hW => ⟨⟨v, M, rfl, ⟨hv, hM⟩, C.P t ht hW⟩, C.2.2.2.2.F ht⟩) C.2.2.2.2.2.2 hd hlk
theorem gRetl {v r : Int64} (S : CallFix p m c cc nL s args Ts own) (hr : meth.sig.returnType = some .long) (hlk : meth.locks = false) (C : gW sh D cy ad s s.heap M H locs) (hv : v = r) (hM : M = M') (hd : decode cc pc = .ok (.lreturn, 1)) : W p l e R s m args below meth c H locs 0 0 (MQ below (gQl sh D cy ad r M') args s 0 0 (gA sh ad)) (F0 m pc ls [.long v]) :=
  W.lret S.1 S.2.1 hr (fun t ht hW => ⟨⟨v, M, rfl, ⟨hv, hM⟩, C.P t ht hW⟩, C.2.2.2.2.F ht⟩) C.2.2.2.2.2.2 hd hlk
theorem gRetv (S : CallFix p m c cc nL s args Ts own) (hr : meth.sig.returnType = none) (hlk : meth.locks = false) (C : gW sh D cy ad s s.heap M H locs) (hM : M = M') (hd : decode cc pc = .ok (.return_, 1)) : W p l e R s m args below meth c H locs 0 0 (MQ below (gQv sh D cy ad M') args s 0 0 (gA sh ad)) (F0 m pc ls []) :=
  W.vret S.1 S.2.1 hr (fun t ht hW => ⟨⟨M, rfl, hM, C.P t ht hW⟩, C.2.2.2.2.F ht⟩) C.2.2.2.2.2.2 hd hlk
theorem g_get (S : CallFix p m c cc nL s args Ts own) (C : gW sh D cy ad s H0 M H locs) {k ci f n index : Nat} {q : Nat × Nat} {Cn : String} {T : u_T} {fs : List Value} {v : Value} (hin : ∀ w ∈ u_ws Cn T n, w ∈ Ts) (hlink : Cond.fieldLink own index (T f).1 (T f).2.1 (T f).2.2.1 ∈ Ts) (hc : vwCl[ci]? = some (Cn, T, n)) (hf : f < n) (hq : sh[k]? = some q) (he : gE cy q k ad (M.1 k) (M.2 k) = .inr (ci, fs)) (hv : fs[f]? = some v) (hd : decode cc pc = .ok (.getfield index, 3)) (kk : W p l e R s m args below meth c H locs cells slots Q (F0 m (pc + 3) ls (v :: rest))) : W p l e R s m args below meth c H locs cells slots Q (F0 m pc ls (.ref (ad k) :: rest)) :=
  va_get S.1 S.2.1 S.2.2.2.2 hin S.2.2.2.1 C.1 C.2.2.2.1 k (by rw [gL_at hq, he]) hc f hf (S.2.2.2.2 _ hlink) (fun _ h => h) hv hd kk
theorem g_getN (S : CallFix p m c cc nL s args Ts own) (C : gW sh D cy ad s H0 M H locs) {k ci f n index : Nat} {q : Nat × Nat} {Cn host : String} {T : u_T} {fs : List Value} {v : Value} (hin : ∀ w ∈ u_ws Cn T n, w ∈ Ts) (hlink : (own, index, (T f).1, (T f).2.1, (T f).2.2.1, host) ∈ gNf) (hc : vwCl[ci]? = some (Cn, T, n)) (hf : f < n) (hq : sh[k]? = some q) (he : gE cy q k ad (M.1 k) (M.2 k) = .inr (ci, fs)) (hv : fs[f]? = some v) (hd : decode cc pc = .ok (.getfield index, 3)) (kk : W p l e R s m args below meth c H locs cells slots Q (F0 m (pc + 3) ls (v :: rest))) : W p l e R s m args below meth c H locs cells slots Q (F0 m pc ls (.ref (ad k) :: rest)) :=
  va_getN S.1 S.2.1 S.2.2.2.2 hin S.2.2.2.1 C.1 C.2.2.2.1 k (by rw [gL_at hq, he]) hc f hf (va_Nw.use rfl (C.2.1.1 _ hlink)) (fun _ h => h) hv hd kk
theorem g_put (S : CallFix p m c cc nL s args Ts own) (C : gW sh D cy ad s H0 M H locs) {k ci f n index : Nat} {q : Nat × Nat} {Cn : String} {T : u_T} {fs : List Value} {v : Value} {ty : FieldType} (hin : ∀ w ∈ u_ws Cn T n, w ∈ Ts) (ty0 : Nat → FieldType) (hty : ∀ k, k < n → parseFieldDescriptor (T k).2.2.1 = some (ty0 k)) (hnm : ∀ a, a < n → ∀ b, b < n → a ≠ b → (T a).2.1 ≠ (T b).2.1) (hlink : Cond.fieldLink own index (T f).1 (T f).2.1 (T f).2.2.1 ∈ Ts) (hc : vwCl[ci]? = some (Cn, T, n)) (hf : f < n) (hfin : (T f).2.2.2 = false) (hd0 : parseFieldDescriptor (T f).2.2.1 = some ty) (hn : narrow ty v = v) (hfit : fits ty v = true) (hq : sh[k]? = some q) (he : gE cy q k ad (M.1 k) (M.2 k) = .inr (ci, fs)) (hl : f < fs.length) (hM : gE cy q k ad (M'.1 k) (M'.2 k) = .inr (ci, fs.set f v)) (ho : ∀ j, j ≠ k → M'.1 j = M.1 j ∧ M'.2 j = M.2 j) (hd : decode cc pc = .ok (.putfield index, 3))
    (kk : ∀ (H1 : Heap) (locs1 : List Loc), gW sh D cy ad s H0 M' H1 locs1 → W p l e R s m args below meth c H1 locs1 cells slots Q (F0 m (pc + 3) ls rest)) : W p l e R s m args below meth c H locs cells slots Q (F0 m pc ls (v :: .ref (ad k) :: rest)) := by
  refine va_put S.1 S.2.1 S.2.2.2.2 hin ty0 hty hnm S.2.2.2.1 C.1 C.2.2.2.1 (gD C.2.2.1) C.2.2.2.2 k (by rw [gL_at hq, he]) hc f hf (S.2.2.2.2 _ hlink) (fun _ h => h) hfin hd0 hn hfit hl hd (fun H1 locs1 hP hD hS => ?_)
  rw [gL_set hq hM ho] at hP
  exact kk H1 locs1 ⟨C.1, C.2.1, C.2.2.1, hP, hS⟩
theorem g_iald (S : CallFix p m c cc nL s args Ts own) (C : gW sh D cy ad s H0 M H locs) {k n : Nat} {i : Int32} (hq : sh[k]? = some (1, n)) (hin : inb i n = true) (hd : decode cc pc = .ok (.iaload, 1)) (kk : W p l e R s m args below meth c H locs cells slots Q (F0 m (pc + 1) ls (.int (M.1 k i.toNatClampNeg) :: rest))) : W p l e R s m args below meth c H locs cells slots Q (F0 m pc ls (.int i :: .ref (ad k) :: rest)) :=
  va_iald S.1 S.2.1 C.1 C.2.2.2.1 k 0 (gL_at hq) rfl (inb_ok hin) hd kk
theorem g_lald (S : CallFix p m c cc nL s args Ts own) (C : gW sh D cy ad s H0 M H locs) {k n : Nat} {i : Int32} (hq : sh[k]? = some (2, n)) (hin : inb i n = true) (hd : decode cc pc = .ok (.laload, 1)) (kk : W p l e R s m args below meth c H locs cells slots Q (F0 m (pc + 1) ls (.long (M.2 k i.toNatClampNeg) :: rest))) : W p l e R s m args below meth c H locs cells slots Q (F0 m pc ls (.int i :: .ref (ad k) :: rest)) :=
  va_lald S.1 S.2.1 C.1 C.2.2.2.1 k 1 (gL_at hq) rfl (inb_ok hin) hd kk
theorem g_aald (S : CallFix p m c cc nL s args Ts own) (C : gW sh D cy ad s H0 M H locs) {k n : Nat} {i : Int32} (hq : sh[k]? = some (3, n)) (hin : inb i n = true) (hd : decode cc pc = .ok (.aaload, 1)) (kk : W p l e R s m args below meth c H locs cells slots Q (F0 m (pc + 1) ls (.ref (ad (k + 1 + 4 * i.toNatClampNeg)) :: rest))) : W p l e R s m args below meth c H locs cells slots Q (F0 m pc ls (.int i :: .ref (ad k) :: rest)) :=
  va_aldq S.1 S.2.1 C.1 C.2.2.2.1 k 2 (gL_at hq) rfl (inb_ok hin) hd kk
theorem g_iast (S : CallFix p m c cc nL s args Ts own) (C : gW sh D cy ad s H0 M H locs) {k n : Nat} {i x : Int32} (hq : sh[k]? = some (1, n)) (hin : inb i n = true) (hd : decode cc pc = .ok (.iastore, 1)) (kk : ∀ (H1 : Heap) (locs1 : List Loc), gW sh D cy ad s H0 (sI M k i.toNatClampNeg x) H1 locs1 → W p l e R s m args below meth c H1 locs1 cells slots Q (F0 m (pc + 1) ls rest)) : W p l e R s m args below meth c H locs cells slots Q (F0 m pc ls (.int x :: .int i :: .ref (ad k) :: rest)) := by
  refine va_iast S.1 S.2.1 C.1 C.2.2.2.1 (gD C.2.2.1) C.2.2.2.2 k 0 (gL_at hq) rfl (inb_ok hin) hd (fun H1 locs1 hP hD hS => ?_)
  rw [gL_set (M' := sI M k i.toNatClampNeg x) hq (by rw [sI_at]; rfl) sI_off] at hP
  exact kk H1 locs1 ⟨C.1, C.2.1, C.2.2.1, hP, hS⟩
theorem g_last (S : CallFix p m c cc nL s args Ts own) (C : gW sh D cy ad s H0 M H locs) {k n : Nat} {i : Int32} {x : Int64} (hq : sh[k]? = some (2, n)) (hin : inb i n = true) (hd : decode cc pc = .ok (.lastore, 1)) (kk : ∀ (H1 : Heap) (locs1 : List Loc), gW sh D cy ad s H0 (sJ M k i.toNatClampNeg x) H1 locs1 → W p l e R s m args below meth c H1 locs1 cells slots Q (F0 m (pc + 1) ls rest)) : W p l e R s m args below meth c H locs cells slots Q (F0 m pc ls (.long x :: .int i :: .ref (ad k) :: rest)) := by
  refine va_last S.1 S.2.1 C.1 C.2.2.2.1 (gD C.2.2.1) C.2.2.2.2 k 1 (gL_at hq) rfl (inb_ok hin) hd (fun H1 locs1 hP hD hS => ?_)
  rw [gL_set (M' := sJ M k i.toNatClampNeg x) hq (by rw [sJ_at]; rfl) sJ_off] at hP
  exact kk H1 locs1 ⟨C.1, C.2.1, C.2.2.1, hP, hS⟩
/-- behind a call -/
theorem gC_i {st0 : List Value} {a : Array Value} {r : Int32} (C : gW sh D cy ad s H0 M H locs) (hr : va_Run p l e R s m args below meth c H locs cells slots 0 0 (F0 m pc ls st0) rest (gQi sh D cy ad r M' a) (gA sh ad)) (kk : ∀ (H1 : Heap) (locs1 : List Loc), gW sh D cy ad s H0 M' H1 locs1 → W p l e R s m args below meth c H1 locs1 cells slots Q (F0 m (pc + 3) ls (.int r :: rest))) : W p l e R s m args below meth c H locs cells slots Q (F0 m pc ls st0) := by
  refine va_calli hr C.2.2.2.2 (fun _ _ h => h) (fun _ h => h) (fun r' u t H1 locs1 ht hvm hw hB hz hk hS => ?_)
  obtain ⟨rfl, rfl⟩ := hw
  exact kk H1 locs1 ⟨C.1, C.2.1, C.2.2.1, by rw [← ht]; exact hB.2.2.2, hS⟩
theorem gC_l {st0 : List Value} {a : Array Value} {r : Int64} (C : gW sh D cy ad s H0 M H locs) (hr : va_Run p l e R s m args below meth c H locs cells slots 0 0 (F0 m pc ls st0) rest (gQl sh D cy ad r M' a) (gA sh ad)) (kk : ∀ (H1 : Heap) (locs1 : List Loc), gW sh D cy ad s H0 M' H1 locs1 → W p l e R s m args below meth c H1 locs1 cells slots Q (F0 m (pc + 3) ls (.long r :: rest))) : W p l e R s m args below meth c H locs cells slots Q (F0 m pc ls st0) := by
  refine va_calll hr C.2.2.2.2 (fun _ _ h => h) (fun _ h => h) (fun r' u t H1 locs1 ht hvm hw hB hz hk hS => ?_)
  obtain ⟨rfl, rfl⟩ := hw
  exact kk H1 locs1 ⟨C.1, C.2.1, C.2.2.1, by rw [← ht]; exact hB.2.2.2, hS⟩
theorem gC_v {st0 : List Value} {a : Array Value} (C : gW sh D cy ad s H0 M H locs) (hr : va_Run p l e R s m args below meth c H locs cells slots 0 0 (F0 m pc ls st0) rest (gQv sh D cy ad M' a) (gA sh ad)) (kk : ∀ (H1 : Heap) (locs1 : List Loc), gW sh D cy ad s H0 M' H1 locs1 → W p l e R s m args below meth c H1 locs1 cells slots Q (F0 m (pc + 3) ls rest)) : W p l e R s m args below meth c H locs cells slots Q (F0 m pc ls st0) := by
  refine va_callv hr C.2.2.2.2 (fun _ _ h => h) (fun _ h => h) (fun u t H1 locs1 ht hvm hw hB hz hk hS => ?_)
  obtain rfl := hw
  exact kk H1 locs1 ⟨C.1, C.2.1, C.2.2.1, by rw [← ht]; exact hB.2.2.2, hS⟩
section GC
variable {y : MethodName} {bytes : ByteArray} {maxL index f1 n1 f2 n2 : Nat} {ret : Option FieldType} {ws ws' : List Cond} {Qc : Array Value → State → Outcome → State → Prop} {As st0 : List Value}
theorem gRS (n : Nat) (S : CallFix p m c cc nL s args Ts own) (C : gW sh D cy ad s H0 M H locs) (hM : Met l y ws (gR f1 n1) (va_Pc As (gP sh D cy ad M)) Qc 0 0 (gA sh ad)) (hT : GoodIn Ts (va_wsS own index y ws)) (hw : ws = Cond.code y bytes maxL ret :: ws') (hd : y.cls ≠ "java/lang/invoke/MethodHandle" ∧ y.cls ≠ "java/lang/invoke/VarHandle" ∧ (parseMethodDescriptor y.desc).map (fun d => d.parameters.length) = some n) (hR : f1 + 1 ≤ f2 ∧ 8 + (maxL + 11) + n1 ≤ n2)
    (hn : As.length = n) (hsize : ls.size = nL) (hst : st0 = As.reverse ++ rest) (hW : (rest.map fun v => v.category).sum ≤ 8) (hdg : decode cc pc = .ok (.invokestatic index, 3)) : va_Run p l e (gR f2 n2) s m args below meth c H locs 0 0 0 0 (F0 m pc ls st0) rest (Qc As.toArray) (gA sh ad) :=
  va_runS S hM (va_cwS n S.2.2.2.2 hT hw rfl rfl hd hR) ⟨gP_blind, fun U hU hW => ⟨rfl, C.P U hU hW⟩⟩ rfl hn hsize hst (lv_room hW) hdg ⟨Nat.le_refl _, Nat.le_refl _⟩
theorem gRSN {host : String} (n : Nat) (S : CallFix p m c cc nL s args Ts own) (C : gW sh D cy ad s H0 M H locs) (hM : Met l y ws (gR f1 n1) (va_Pc As (gP sh D cy ad M)) Qc 0 0 (gA sh ad)) (hG : GoodIn Ts ws) (hw : ws = Cond.code y bytes maxL ret :: ws') (hN : (own, index, y, host) ∈ gNm) (hini : Cond.initialized y.cls ∈ Ts) (hsta : Cond.static y ∈ Ts) (hd : y.cls ≠ "java/lang/invoke/MethodHandle" ∧ y.cls ≠ "java/lang/invoke/VarHandle" ∧ (parseMethodDescriptor y.desc).map (fun d => d.parameters.length) = some n) (hR : f1 + 1 ≤ f2 ∧ 8 + (maxL + 11) + n1 ≤ n2)
    (hn : As.length = n) (hsize : ls.size = nL) (hst : st0 = As.reverse ++ rest) (hW : (rest.map fun v => v.category).sum ≤ 8) (hdg : decode cc pc = .ok (.invokestatic index, 3)) : va_Run p l e (gR f2 n2) s m args below meth c H locs 0 0 0 0 (F0 m pc ls st0) rest (Qc As.toArray) (gA sh ad) :=
  va_runSN S hM ⟨va_cnB n S.2.2.2.2 hG hw rfl rfl (C.2.1.2 _ hN) (S.2.2.2.2 _ hini) hd hR, S.2.2.2.2 _ hsta, trivial⟩ ⟨gP_blind, fun U hU hW => ⟨rfl, C.P U hU hW⟩⟩ rfl hn hsize hst (lv_room hW) hdg ⟨Nat.le_refl _, Nat.le_refl _⟩
theorem gRV {k ci : Nat} {q : Nat × Nat} {r : vw_C} {fs : List Value} (n : Nat) (S : CallFix p m c cc nL s args Ts own) (C : gW sh D cy ad s H0 M H locs) (hM : Met l y ws (gR f1 n1) (va_Pc (.ref (ad k) :: As) (gP sh D cy ad M)) Qc 0 0 (gA sh ad)) (hT : GoodIn Ts (wsV own index r.1 y ws)) (hw : ws = Cond.code y bytes maxL ret :: ws') (hd : y.cls = r.1 ∧ y.cls ≠ "java/lang/invoke/MethodHandle" ∧ y.cls ≠ "java/lang/invoke/VarHandle" ∧ (parseMethodDescriptor y.desc).map (fun d => d.parameters.length) = some n) (hR : f1 + 1 ≤ f2 ∧ 8 + (maxL + 11) + n1 ≤ n2)
    (hq : sh[k]? = some q) (he : gE cy q k ad (M.1 k) (M.2 k) = .inr (ci, fs)) (hc : vwCl[ci]? = some r) (hn : As.length = n) (hsize : ls.size = nL) (hst : st0 = As.reverse ++ .ref (ad k) :: rest) (hW : (rest.map fun v => v.category).sum ≤ 8) (hdg : decode cc pc = .ok (.invokevirtual index, 3)) : va_Run p l e (gR f2 n2) s m args below meth c H locs 0 0 0 0 (F0 m pc ls st0) rest (Qc (Value.ref (ad k) :: As).toArray) (gA sh ad) :=
  va_runV S hM (cwV n S.2.2.2.2 hT hw rfl rfl hd hR) ⟨gP_blind, va_recv C.1 C.2.2.2.1 hc (by rw [gL_at hq, he]), fun U hU hW => ⟨rfl, C.P U hU hW⟩⟩ rfl hn hsize hst (lv_room hW) hdg ⟨Nat.le_refl _, Nat.le_refl _⟩
end GC
end GB
def shC : gSh := [(10, 0), (3, 6), (4, 0), (1, 64), (1, 64), (1, 64), (4, 0), (1, 64), (1, 64), (1, 64), (4, 0), (1, 64), (1, 64), (1, 64), (4, 0), (1, 64), (1, 64), (1, 64), (4, 0), (1, 64), (1, 64), (1, 64), (4, 0), (1, 64), (1, 64), (1, 64), (4, 0), (1, 128), (1, 128), (1, 128), (4, 0), (1, 65), (1, 65), (1, 65), (5, 0), (1, 256), (1, 256), (1, 256), (1, 256), (1, 256), (1, 256), (6, 0), (2, 129), (1, 129), (1, 33), (6, 0), (2, 129), (1, 129), (1, 33), (7, 0), (8, 0), (2, 62), (1, 62), (9, 0), (4, 0), (1, 64), (1, 64), (1, 64), (4, 0), (1, 64), (1, 64), (1, 64), (4, 0), (1, 64), (1, 64), (1, 64), (1, 33)]
def shR : gSh := [(11, 0), (1, 6), (2, 384), (1, 384), (1, 384), (2, 600), (1, 600), (1, 33), (2, 19800), (1, 19800), (2, 600), (1, 600), (2, 1200), (1, 1200), (2, 64), (1, 64), (1, 64), (2, 64), (1, 64), (1, 128), (2, 128), (1, 128), (1, 128), (2, 64), (1, 64), (1, 64), (2, 2200), (1, 2200)]
theorem shC_0 : shC[0]? = some (10, 0) := rfl
theorem shC_1 : shC[1]? = some (3, 6) := rfl
theorem shC_2 : shC[2]? = some (4, 0) := rfl
theorem shC_3 : shC[3]? = some (1, 64) := rfl
theorem shC_4 : shC[4]? = some (1, 64) := rfl
theorem shC_5 : shC[5]? = some (1, 64) := rfl
theorem shC_6 : shC[6]? = some (4, 0) := rfl
theorem shC_7 : shC[7]? = some (1, 64) := rfl
theorem shC_8 : shC[8]? = some (1, 64) := rfl
theorem shC_9 : shC[9]? = some (1, 64) := rfl
theorem shC_10 : shC[10]? = some (4, 0) := rfl
theorem shC_11 : shC[11]? = some (1, 64) := rfl
theorem shC_12 : shC[12]? = some (1, 64) := rfl
theorem shC_13 : shC[13]? = some (1, 64) := rfl
theorem shC_14 : shC[14]? = some (4, 0) := rfl
theorem shC_15 : shC[15]? = some (1, 64) := rfl
theorem shC_16 : shC[16]? = some (1, 64) := rfl
theorem shC_17 : shC[17]? = some (1, 64) := rfl
theorem shC_18 : shC[18]? = some (4, 0) := rfl
theorem shC_19 : shC[19]? = some (1, 64) := rfl
theorem shC_20 : shC[20]? = some (1, 64) := rfl
theorem shC_21 : shC[21]? = some (1, 64) := rfl
theorem shC_22 : shC[22]? = some (4, 0) := rfl
theorem shC_23 : shC[23]? = some (1, 64) := rfl
theorem shC_24 : shC[24]? = some (1, 64) := rfl
theorem shC_25 : shC[25]? = some (1, 64) := rfl
theorem shC_26 : shC[26]? = some (4, 0) := rfl
theorem shC_27 : shC[27]? = some (1, 128) := rfl
theorem shC_28 : shC[28]? = some (1, 128) := rfl
theorem shC_29 : shC[29]? = some (1, 128) := rfl
theorem shC_30 : shC[30]? = some (4, 0) := rfl
theorem shC_31 : shC[31]? = some (1, 65) := rfl
theorem shC_32 : shC[32]? = some (1, 65) := rfl
theorem shC_33 : shC[33]? = some (1, 65) := rfl
theorem shC_34 : shC[34]? = some (5, 0) := rfl
theorem shC_35 : shC[35]? = some (1, 256) := rfl
theorem shC_36 : shC[36]? = some (1, 256) := rfl
theorem shC_37 : shC[37]? = some (1, 256) := rfl
theorem shC_38 : shC[38]? = some (1, 256) := rfl
theorem shC_39 : shC[39]? = some (1, 256) := rfl
theorem shC_40 : shC[40]? = some (1, 256) := rfl
theorem shC_41 : shC[41]? = some (6, 0) := rfl
theorem shC_42 : shC[42]? = some (2, 129) := rfl
theorem shC_43 : shC[43]? = some (1, 129) := rfl
theorem shC_44 : shC[44]? = some (1, 33) := rfl
theorem shC_45 : shC[45]? = some (6, 0) := rfl
theorem shC_46 : shC[46]? = some (2, 129) := rfl
theorem shC_47 : shC[47]? = some (1, 129) := rfl
theorem shC_48 : shC[48]? = some (1, 33) := rfl
theorem shC_49 : shC[49]? = some (7, 0) := rfl
theorem shC_50 : shC[50]? = some (8, 0) := rfl
theorem shC_51 : shC[51]? = some (2, 62) := rfl
theorem shC_52 : shC[52]? = some (1, 62) := rfl
theorem shC_53 : shC[53]? = some (9, 0) := rfl
theorem shC_54 : shC[54]? = some (4, 0) := rfl
theorem shC_55 : shC[55]? = some (1, 64) := rfl
theorem shC_56 : shC[56]? = some (1, 64) := rfl
theorem shC_57 : shC[57]? = some (1, 64) := rfl
theorem shC_58 : shC[58]? = some (4, 0) := rfl
theorem shC_59 : shC[59]? = some (1, 64) := rfl
theorem shC_60 : shC[60]? = some (1, 64) := rfl
theorem shC_61 : shC[61]? = some (1, 64) := rfl
theorem shC_62 : shC[62]? = some (4, 0) := rfl
theorem shC_63 : shC[63]? = some (1, 64) := rfl
theorem shC_64 : shC[64]? = some (1, 64) := rfl
theorem shC_65 : shC[65]? = some (1, 64) := rfl
theorem shC_66 : shC[66]? = some (1, 33) := rfl
theorem shR_0 : shR[0]? = some (11, 0) := rfl
theorem shR_1 : shR[1]? = some (1, 6) := rfl
theorem shR_2 : shR[2]? = some (2, 384) := rfl
theorem shR_3 : shR[3]? = some (1, 384) := rfl
theorem shR_4 : shR[4]? = some (1, 384) := rfl
theorem shR_5 : shR[5]? = some (2, 600) := rfl
theorem shR_6 : shR[6]? = some (1, 600) := rfl
theorem shR_7 : shR[7]? = some (1, 33) := rfl
theorem shR_8 : shR[8]? = some (2, 19800) := rfl
theorem shR_9 : shR[9]? = some (1, 19800) := rfl
theorem shR_10 : shR[10]? = some (2, 600) := rfl
theorem shR_11 : shR[11]? = some (1, 600) := rfl
theorem shR_12 : shR[12]? = some (2, 1200) := rfl
theorem shR_13 : shR[13]? = some (1, 1200) := rfl
theorem shR_14 : shR[14]? = some (2, 64) := rfl
theorem shR_15 : shR[15]? = some (1, 64) := rfl
theorem shR_16 : shR[16]? = some (1, 64) := rfl
theorem shR_17 : shR[17]? = some (2, 64) := rfl
theorem shR_18 : shR[18]? = some (1, 64) := rfl
theorem shR_19 : shR[19]? = some (1, 128) := rfl
theorem shR_20 : shR[20]? = some (2, 128) := rfl
theorem shR_21 : shR[21]? = some (1, 128) := rfl
theorem shR_22 : shR[22]? = some (1, 128) := rfl
theorem shR_23 : shR[23]? = some (2, 64) := rfl
theorem shR_24 : shR[24]? = some (1, 64) := rfl
theorem shR_25 : shR[25]? = some (1, 64) := rfl
theorem shR_26 : shR[26]? = some (2, 2200) := rfl
theorem shR_27 : shR[27]? = some (1, 2200) := rfl
def lnOf (k : Nat) : Nat := (shC.getD (k + 1) (0, 0)).2
abbrev isL (k : Nat) : Prop := shC[k]? = some (4, 0) ∧ shC[k + 1]? = some (1, lnOf k) ∧ shC[k + 2]? = some (1, lnOf k) ∧ shC[k + 3]? = some (1, lnOf k)
abbrev isS (k : Nat) : Prop := shC[k]? = some (6, 0) ∧ shC[k + 1]? = some (2, 129) ∧ shC[k + 2]? = some (1, 129) ∧ shC[k + 3]? = some (1, 33)
theorem isL_2 : isL 2 := ⟨rfl, rfl, rfl, rfl⟩
theorem isL_6 : isL 6 := ⟨rfl, rfl, rfl, rfl⟩
theorem isL_10 : isL 10 := ⟨rfl, rfl, rfl, rfl⟩
theorem isL_14 : isL 14 := ⟨rfl, rfl, rfl, rfl⟩
theorem isL_18 : isL 18 := ⟨rfl, rfl, rfl, rfl⟩
theorem isL_22 : isL 22 := ⟨rfl, rfl, rfl, rfl⟩
theorem isL_26 : isL 26 := ⟨rfl, rfl, rfl, rfl⟩
theorem isL_30 : isL 30 := ⟨rfl, rfl, rfl, rfl⟩
theorem isS_41 : isS 41 := ⟨rfl, rfl, rfl, rfl⟩
theorem isS_45 : isS 45 := ⟨rfl, rfl, rfl, rfl⟩
theorem isL_54 : isL 54 := ⟨rfl, rfl, rfl, rfl⟩
theorem isL_58 : isL 58 := ⟨rfl, rfl, rfl, rfl⟩
theorem isL_62 : isL 62 := ⟨rfl, rfl, rfl, rfl⟩
theorem isL_book {i : Int32} (h : inb i 6 = true) : isL (2 + 4 * i.toNatClampNeg) := by
  have h1 := inb_ok h
  have h2 : i.toNatClampNeg < 6 := Nat.not_le.mp fun q => h1 (Or.inr q)
  generalize i.toNatClampNeg = n at h2
  rcases (show n = 0 ∨ n = 1 ∨ n = 2 ∨ n = 3 ∨ n = 4 ∨ n = 5 by omega) with rfl | rfl | rfl | rfl | rfl | rfl
  · exact isL_2
  · exact isL_6
  · exact isL_10
  · exact isL_14
  · exact isL_18
  · exact isL_22
