theorem LB0 {l : Nat} (h1 : lnOf l ≤ 1000) (h2 : MC0.1 l 4 = 0) (h3 : MC0.1 l 3 = nI (lnOf l)) : LB MC0 l [] := ⟨Nat.zero_le _, h1, h2, h3, fun i hi => absurd hi (Nat.not_lt_zero i)⟩
theorem inv0 : Inv MC0 MR0 := by
  refine ⟨fun _ => [], ⟨fun b hb => ?_, fun b hb => ⟨Nat.zero_le _, rfl, fun i hi => absurd hi (Nat.not_lt_zero i)⟩, fun b hb => ⟨fun i hi => absurd hi (Nat.not_lt_zero i), fun i j _ hj => absurd hj (Nat.not_lt_zero j)⟩⟩, ⟨[], LB0 (by decide) rfl rfl⟩, ⟨[], LB0 (by decide) rfl rfl⟩, ⟨[], ⟨Nat.zero_le _, rfl, fun i hi => absurd hi (Nat.not_lt_zero i)⟩, ⟨rfl, fun i hi => absurd hi (Nat.not_lt_zero i)⟩, ?_⟩, none, ⟨⟨[], LB0 (by decide) rfl rfl⟩, ⟨[], LB0 (by decide) rfl rfl⟩, ⟨[], LB0 (by decide) rfl rfl⟩, rfl⟩, rfl, trivial⟩
  · rcases (show b = 0 ∨ b = 1 ∨ b = 2 ∨ b = 3 ∨ b = 4 ∨ b = 5 by omega) with rfl | rfl | rfl | rfl | rfl | rfl <;> exact LB0 (by decide) rfl rfl
  · exact fun i hi => absurd hi (Nat.not_lt_zero i)
theorem lw_cy {args : Array Value} {s : State} (hI : (Cond.arrayClass .int).before args s = true) (hJ : (Cond.arrayClass .long).before args s = true) (hO : (Cond.arrayOver (.object RX2)).before args s = true) : ∃ cy : gCy, ∀ (k : Nat) (q : ClassId × FieldType), (gTy cy)[k]? = some q → ArrOfT s q.1 q.2 ∧ va_RA s q.1 q.2 := by
  obtain ⟨c1, k1, m1, f1, f2, f3⟩ := Cond.arrayClass_spec hI
  obtain ⟨c2, k2, m2, g1, g2, g3⟩ := Cond.arrayClass_spec hJ
  obtain ⟨m3, c3, k3, e1, e2, e3, e4, e5⟩ := Cond.arrayOver_spec hO
  refine ⟨(c1, c2, c3), fun k q hq => ?_⟩
  match k, hq with
  | 0, hq => cases hq; exact ⟨fun n z => ⟨fun k h => (by cases h), k1, f2, m1, f3⟩, f1⟩
  | 1, hq => cases hq; exact ⟨fun n z => ⟨fun k h => (by cases h), k2, g2, m2, g3⟩, g1⟩
  | 2, hq => cases hq; exact ⟨fun n z => ⟨fun k h => (by cases h), k3, e3, m3, e4⟩, k3, m3, e3, e4, e1, e5⟩
  | k + 3, hq => simp [gTy] at hq
theorem lw_cl {args : Array Value} {s : State} (hts : ∀ w ∈ lw_tbl, w.before args s = true) : ∃ D : va_G, ∀ (k : Nat) (q : vw_C), vwCl[k]? = some q → u_Kn s q.1 q.2.1 q.2.2 (D.1 k) (D.2 k) := by
  obtain ⟨c0, i0, h0⟩ := u_known (C := RX0) (T := TX0) (N := 3) (n := 3) hts inX0 (hts _ lwNX0)
  obtain ⟨c1, i1, h1⟩ := u_known (C := RX1) (T := TX1) (N := 2) (n := 2) hts inX1 (hts _ lwNX1)
  obtain ⟨c2, i2, h2⟩ := u_known (C := RX2) (T := TX2) (N := 5) (n := 5) hts inX2 (hts _ lwNX2)
  obtain ⟨c3, i3, h3⟩ := u_known (C := RX3) (T := TX3) (N := 6) (n := 6) hts inX3 (hts _ lwNX3)
  obtain ⟨c4, i4, h4⟩ := u_known (C := RX5) (T := TX5) (N := 7) (n := 7) hts inX5 (hts _ lwNX5)
  obtain ⟨c5, i5, h5⟩ := u_known (C := RX6) (T := TX6) (N := 5) (n := 5) hts inX6 (hts _ lwNX6)
  obtain ⟨c6, i6, h6⟩ := u_known (C := RX7) (T := TX7) (N := 9) (n := 9) hts inX7 (hts _ lwNX7)
  obtain ⟨c7, i7, h7⟩ := u_known (C := RX8) (T := TX8) (N := 34) (n := 34) hts inX8 (hts _ lwNX8)
  refine ⟨(fun k => if k = 0 then c0 else if k = 1 then c1 else if k = 2 then c2 else if k = 3 then c3 else if k = 4 then c4 else if k = 5 then c5 else if k = 6 then c6 else c7, fun k => if k = 0 then i0 else if k = 1 then i1 else if k = 2 then i2 else if k = 3 then i3 else if k = 4 then i4 else if k = 5 then i5 else if k = 6 then i6 else i7), fun k q hq => ?_⟩
  match k, hq with
  | 0, hq => cases hq; exact h0
  | 1, hq => cases hq; exact h1
  | 2, hq => cases hq; exact h2
  | 3, hq => cases hq; exact h3
  | 4, hq => cases hq; exact h4
  | 5, hq => cases hq; exact h5
  | 6, hq => cases hq; exact h6
  | 7, hq => cases hq; exact h7
  | k + 8, hq => simp [vwCl] at hq
theorem gL_len {sh : gSh} {cy : gCy} {ad : Nat → Nat} {M : gMem} : (gL sh cy ad M).length = sh.length := by simp [gL]
/-- two worlds out of one list -/
theorem lw_two {D : va_G} {cy : gCy} {aC aR : Nat → Nat} {s : State} {MC MR : gMem} {H : Heap} {locs : List Loc} (hK : va_K D vwCl (gTy cy) s) (hN : gNw s) (hP : va_P D vwCl (gL shC cy aC MC ++ gL shR cy aR MR) H) (hD : va_D (fun q : Nat => s.heap.size ≤ q) (gL shC cy aC MC ++ gL shR cy aR MR)) (hS : va_S (fun q : Nat => s.heap.size ≤ q) s.heap H locs) : lwI D cy aC aR s MC MR H locs := by
  have atC : ∀ k, (hk : k < shC.length) → (gL shC cy aC MC ++ gL shR cy aR MR)[k]? = some (aC k, gE cy shC[k] k aC (MC.1 k) (MC.2 k)) := fun k hk => by
    rw [List.getElem?_append_left (by rw [gL_len]; exact hk)]
    exact gL_at (List.getElem?_eq_getElem hk)
  have atR : ∀ k, (hk : k < shR.length) → (gL shC cy aC MC ++ gL shR cy aR MR)[shC.length + k]? = some (aR k, gE cy shR[k] k aR (MR.1 k) (MR.2 k)) := fun k hk => by
    rw [List.getElem?_append_right (by rw [gL_len]; exact Nat.le_add_right _ _), gL_len, Nat.add_sub_cancel_left]
    exact gL_at (List.getElem?_eq_getElem hk)
  refine ⟨hK, hN, fun i j hi hj e => hD.1 i j _ _ (atC i hi) (atC j hj) e, fun i j hi hj e => ?_, fun k q hq => ?_, fun k q hq => ?_, fun i j hi hj e => ?_, fun i hi => hD.2 i _ (atC i hi), fun j hj => hD.2 _ _ (atR j hj), hS⟩
  · have := hD.1 _ _ _ _ (atR i hi) (atR j hj) e
    omega
  · have hk := (gL_in hq).1
    exact hP k q (by rw [List.getElem?_append_left (by rw [gL_len]; exact hk)]; exact hq)
  · exact hP (shC.length + k) q (by rw [List.getElem?_append_right (by rw [gL_len]; exact Nat.le_add_right _ _), gL_len, Nat.add_sub_cancel_left]; exact hq)
  · have := hD.1 _ _ _ _ (atC i hi) (atR j hj) e
    omega
set_option maxHeartbeats 4000000 in
set_option maxRecDepth 100000 in
theorem whole_start {p : Program} {e : Env} {s : State} {m : MethodId} {below : List Frame} {meth : Method} {c : Code} (l : Launch) {b L : Nat} {xs : Nat → Int32} (hL : L ≤ 2560) (C0 : lw_At p s m meth c b L xs) : W p l e room_1 s m #[Value.ref b] below meth c s.heap [] 0 0 (lw_Z below #[Value.ref b] s) (entryFrame m ([Value.ref b] : List Value).toArray 4) := by
  obtain ⟨hx, hb, hr, hml, hown, hts0, hX, hbl, hlocks, hgv⟩ := C0
  have hts : ∀ w ∈ wsL_law, w.before #[Value.ref b] s = true := fun w h => hts0 w (wsL_law_in w h)
  have S : CallFix p m c cL_law 4 s #[Value.ref b] wsL_law RL := ⟨hx, hb, hml, hown, hts⟩
  obtain ⟨D, hKc⟩ := lw_cl hts0
  obtain ⟨cy, hKt⟩ := lw_cy (hts0 _ lwAI) (hts0 _ lwAJ) (hts0 _ lwAO)
  have hN : gNw s := lwNw hts0
  have hO : va_AO RX2 s := va_AO.of (hts0 _ lwAO)
  have hK : va_K D vwCl (gTy cy) s := ⟨hKc, hKt⟩
  have hA : ∀ q : Nat, s.heap.size ≤ q → (fun q : Nat => s.heap.size ≤ q) q := fun _ h => h
  have hS : va_S (fun q : Nat => s.heap.size ≤ q) s.heap s.heap [] := va_S.rf
  have hP : va_P D vwCl [] s.heap := fun k q h => by simp at h
  have hD : va_D (fun q : Nat => s.heap.size ≤ q) [] := ⟨fun i j p q h => by simp at h, fun k q h => by simp at h⟩
  have hl := lv_entry ([.ref b]) (n := 4) (Nat.le_of_ble_eq_true rfl)
  rw [lg_entry_eq]
  generalize (lg_sl ([.ref b]) ++ List.replicate (4 - (lg_sl ([.ref b])).length) Slot.unset).toArray = ls at hl ⊢
  have hl : lv_has ls 4 [(0, .ref b)] := hl
  refine va_new (ci := 6) (fs := [.null, .null, .null, .null, .null, .null, .null, .null, .null]) (C := RX7) (T := TX7) (N := 9) hx hb hts0 inX7 tyX7 tyX7_ok hown (hts (.classLink RL 7 RX7) (List.mem_of_getElem? (i := 0) rfl)) (hts (.instantiable RX7 9) (List.mem_of_getElem? (i := 1) rfl)) (hts (.initialized RX7) (List.mem_of_getElem? (i := 2) rfl)) hK hP hD hS hA rfl (fun j hj => by rcases (show j = 0 ∨ j = 1 ∨ j = 2 ∨ j = 3 ∨ j = 4 ∨ j = 5 ∨ j = 6 ∨ j = 7 ∨ j = 8 by omega) with rfl | rfl | rfl | rfl | rfl | rfl | rfl | rfl | rfl <;> rfl) (by decide) (by decide) dL_law_0 (fun q0 H hP hD hS => ?_)
  refine W.widen (k := 1) (n := 9) (by omega) (by omega) ?_
  refine lv_dup hx hb dL_law_3 rfl ?_
  refine nBehind (wr := []) hP hD hS hA (nRunI (As := []) (rest := [.ref q0]) (wr := []) 0 S hK hN hO hP (n_X7_init l D cy q0 H.size) gL_law_X7_init rfl rfl rfl (List.mem_of_getElem? (i := 2) rfl) (List.mem_of_getElem? (i := 6) rfl) (List.mem_of_getElem? (i := 7) rfl) rfl (by decide +kernel) (by decide) rfl hl.1 rfl (Nat.le_of_ble_eq_true rfl) dL_law_4 (by decide)) (fun aC H locs hu hP hD hS => ?_)
  have hP : va_P D vwCl (gL shC cy aC MC0) H := hP
  have hD : va_D (fun q : Nat => s.heap.size ≤ q) (gL shC cy aC MC0) := hD
  refine W.widen (k := 1000) (n := 10000) (by decide) (by decide) ?_
  refine lv_astore_n (lv' := [(1, .ref q0), (0, .ref b)]) hx hb dL_law_7 rfl hl (by decide) rfl (fun ls hl => ?_)
  refine va_new (ci := 7) (fs := [.null, .null, .null, .null, .int 0, .null, .null, .null, .null, .null, .null, .null, .null, .null, .int 0, .null, .null, .null, .int 0, .null, .null, .int 0, .int 0, .null, .null, .null, .null, .int 0, .null, .null, .null, .int 0, .null, .null]) (C := RX8) (T := TX8) (N := 34) hx hb hts0 inX8 tyX8 tyX8_ok hown (hts (.classLink RL 10 RX8) (List.mem_of_getElem? (i := 3) rfl)) (hts (.instantiable RX8 34) (List.mem_of_getElem? (i := 4) rfl)) (hts (.initialized RX8) (List.mem_of_getElem? (i := 5) rfl)) hK hP hD hS hA rfl (fun j hj => by rcases (show j = 0 ∨ j = 1 ∨ j = 2 ∨ j = 3 ∨ j = 4 ∨ j = 5 ∨ j = 6 ∨ j = 7 ∨ j = 8 ∨ j = 9 ∨ j = 10 ∨ j = 11 ∨ j = 12 ∨ j = 13 ∨ j = 14 ∨ j = 15 ∨ j = 16 ∨ j = 17 ∨ j = 18 ∨ j = 19 ∨ j = 20 ∨ j = 21 ∨ j = 22 ∨ j = 23 ∨ j = 24 ∨ j = 25 ∨ j = 26 ∨ j = 27 ∨ j = 28 ∨ j = 29 ∨ j = 30 ∨ j = 31 ∨ j = 32 ∨ j = 33 by omega) with rfl | rfl | rfl | rfl | rfl | rfl | rfl | rfl | rfl | rfl | rfl | rfl | rfl | rfl | rfl | rfl | rfl | rfl | rfl | rfl | rfl | rfl | rfl | rfl | rfl | rfl | rfl | rfl | rfl | rfl | rfl | rfl | rfl | rfl <;> rfl) (by decide) (by decide) dL_law_8 (fun q1 H hP hD hS => ?_)
  refine W.widen (k := 1001) (n := 10034) (by omega) (by omega) ?_
  refine lv_dup hx hb dL_law_11 rfl ?_
  refine nBehind (wr := gL shC cy aC MC0) hP hD hS hA (nRunI (As := []) (rest := [.ref q1]) (wr := gL shC cy aC MC0) 0 S hK hN hO hP (n_X8_init l D cy q1 H.size) gL_law_X8_init rfl rfl rfl (List.mem_of_getElem? (i := 5) rfl) (List.mem_of_getElem? (i := 86) rfl) (List.mem_of_getElem? (i := 87) rfl) rfl (by decide +kernel) (by decide) rfl hl.1 rfl (Nat.le_of_ble_eq_true rfl) dL_law_12 (by decide)) (fun aR H locs hv hP hD hS => ?_)
  refine W.widen (k := 600000) (n := 7302249) (by decide) (by decide) ?_
  refine lv_astore_n (lv' := [(2, .ref q1), (1, .ref q0), (0, .ref b)]) hx hb dL_law_15 rfl hl (by decide) rfl (fun ls hl => ?_)
  refine lv_iconst (v := 0) hx hb dL_law_16 (by decide) ?_
  refine lv_istore_n (lv' := [(3, .int 0), (2, .ref q1), (1, .ref q0), (0, .ref b)]) hx hb dL_law_17 rfl hl (by decide) rfl (fun ls hl => ?_)
  have hI := lw_two hK hN hP hD hS
  have hl : lv_has ls 4 [(3, .int 0), (2, .ref (aR 0)), (1, .ref (aC 0)), (0, .ref b)] := by rw [hu, hv]; exact hl
  exact law_loop S hr hlocks hX hbl hL (Nat.le_refl _) (Nat.le_refl _) (L + 1) 0 (Nat.zero_le L) (by omega) MC0 MR0 H locs ls hI inv0 (lv_sub hl [3, 2, 1, 0] rfl)
