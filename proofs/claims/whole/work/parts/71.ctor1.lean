def bL (cy : gCy) (h0 : Nat) (u : Nat → Nat) (N : Nat) : va_W := [(h0, .inr (2, [.ref (u 1), .ref (u 2), .ref (u 3), .int (nI N), .int 0])), (u 1, .inl (cy.1, N, .inl (fun _ => 0))), (u 2, .inl (cy.1, N, .inl (fun _ => 0))), (u 3, .inl (cy.1, N, .inl (fun _ => 0)))]
def bT (cy : gCy) (h0 : Nat) (u : Nat → Nat) : va_W := [(h0, .inr (4, [.ref (u 1), .ref (u 2), .ref (u 3), .ref (u 4), .ref (u 5), .ref (u 6), .int 0])), (u 1, .inl (cy.1, 256, .inl (fun _ => 0))), (u 2, .inl (cy.1, 256, .inl (fun _ => 0))), (u 3, .inl (cy.1, 256, .inl (fun _ => 0))), (u 4, .inl (cy.1, 256, .inl (fun _ => 0))), (u 5, .inl (cy.1, 256, .inl (fun _ => 0))), (u 6, .inl (cy.1, 256, .inl (fun _ => 0)))]
def bS (cy : gCy) (h0 : Nat) (u : Nat → Nat) : va_W := [(h0, .inr (3, [.ref (u 1), .ref (u 2), .int 0, .long 0, .ref (u 3), .int 0])), (u 1, .inl (cy.2.1, 129, .inr (.inl (fun _ => 0)))), (u 2, .inl (cy.1, 129, .inl (fun _ => 0))), (u 3, .inl (cy.1, 33, .inl (fun _ => 0)))]
def bD (_ : gCy) (h0 : Nat) (_ : Nat → Nat) : va_W := [(h0, .inr (1, [.long 0, .long 0]))]
def bC (cy : gCy) (h0 : Nat) (u : Nat → Nat) : va_W := [(h0, .inr (0, [.ref (u 1), .ref (u 2), .int 0])), (u 1, .inl (cy.2.1, 62, .inr (.inl (fun _ => 0)))), (u 2, .inl (cy.1, 62, .inl (fun _ => 0)))]
def bW (cy : gCy) (h0 : Nat) (u : Nat → Nat) : va_W := [(h0, .inr (5, [.ref (u 1), .ref (u 5), .ref (u 9), .ref (u 13), .int (-1)])), (u 1, .inr (2, [.ref (u 2), .ref (u 3), .ref (u 4), .int (nI 64), .int 0])), (u 2, .inl (cy.1, 64, .inl (fun _ => 0))), (u 3, .inl (cy.1, 64, .inl (fun _ => 0))), (u 4, .inl (cy.1, 64, .inl (fun _ => 0))), (u 5, .inr (2, [.ref (u 6), .ref (u 7), .ref (u 8), .int (nI 64), .int 0])), (u 6, .inl (cy.1, 64, .inl (fun _ => 0))), (u 7, .inl (cy.1, 64, .inl (fun _ => 0))), (u 8, .inl (cy.1, 64, .inl (fun _ => 0))), (u 9, .inr (2, [.ref (u 10), .ref (u 11), .ref (u 12), .int (nI 64), .int 0])), (u 10, .inl (cy.1, 64, .inl (fun _ => 0))), (u 11, .inl (cy.1, 64, .inl (fun _ => 0))), (u 12, .inl (cy.1, 64, .inl (fun _ => 0))), (u 13, .inl (cy.1, 33, .inl (fun _ => 0)))]
set_option maxHeartbeats 4000000 in
set_option maxRecDepth 100000 in
theorem n_X2_init (l : Launch) (D : va_G) (cy : gCy) (h0 sz : Nat) (N : Nat) (hN0 : N < 1000) : nMet l yX2_init wsX2_init { frames := 1, cells := 3, slots := 3 * N, locals := 23 } D cy [.ref h0, .int (nI N)] (h0, .inr (2, [.null, .null, .null, .int 0, .int 0])) sz (fun u => bL cy h0 u N) 3 (3 * N) := by
  refine nEnter (cc := cX2_init) (maxL := 2) (by decide) rfl rfl (Nat.le_of_ble_eq_true rfl) ?_
  intro p e s m below meth c ls A S hr hlk hin hK hN hO hP hD hS hA hl
  have S : CallFix p m c cX2_init 2 s _ wsX2_init RX2 := S
  have hl : lv_has ls 2 [(0, .ref h0), (1, .int (nI N))] := hl
  refine lv_aload_n S.1 S.2.1 dX2_init_0 rfl (lv_at hl 0 rfl) ?_
  refine W.objInit S.1 S.2.1 S.2.2.2.1 (S.2.2.2.2 (.methodLink RX2 3 objectInit) (by decide +kernel)) (S.2.2.2.2 (.instanceMethod objectInit) (by decide +kernel)) (S.2.2.2.2 _ (by decide +kernel)) rfl (by rw [S.2.2.1]; exact hl.1) rfl dX2_init_1 (Nat.le_of_ble_eq_true rfl) (Nat.le_of_ble_eq_true rfl) ?_
  refine W.eq (g2 := F0 m 4 ls []) rfl ?_
  refine lv_aload_n S.1 S.2.1 dX2_init_4 rfl (lv_at hl 0 rfl) ?_
  refine lv_iload_n S.1 S.2.1 dX2_init_5 rfl (lv_at hl 1 rfl) ?_
  refine lv_iconst (v := (0 : Int32)) S.1 S.2.1 dX2_init_6 (by decide) ?_
  refine va_mmax S.1 S.2.1 (S.2.2.1.trans hl.1.symm) S.2.2.2.1 (S.2.2.2.2 _ (by decide +kernel)) (S.2.2.2.2 _ (by decide +kernel)) (S.2.2.2.2 _ (by decide +kernel)) (S.2.2.2.2 _ (by decide +kernel)) (rest := [.ref h0]) (Nat.le_of_ble_eq_true rfl) (Nat.le_of_ble_eq_true rfl) (Nat.zero_le _) (Nat.zero_le _) dX2_init_7 ?_
  refine gNmI (x := nI N) (if_neg (nI_pos (by omega))).symm ?_
  refine va_putF (D := D) (ci := 2) (v := .int (nI N)) (ty := .int) (C := RX2) (T := TX2) (N := 5) S.1 S.2.1 S.2.2.2.2 (by decide +kernel) tyX2 tyX2_ok nmX2 S.2.2.2.1 hK hP hD hS 0 rfl rfl 3 (by decide) (S.2.2.2.2 (.fieldLink RX2 15 "PrefixLeader$Lines" "room" "I") (by decide +kernel)) (fun _ h9 => h9) rfl hin rfl (by decide +kernel) rfl rfl (Nat.le_of_ble_eq_true rfl) dX2_init_10 (fun H locs hP hD hS => ?_)
  have hP : va_P D vwCl ([(h0, .inr (2, [.null, .null, .null, .int (nI N), .int 0]))]) H := hP
  have hD : va_D A ([(h0, .inr (2, [.null, .null, .null, .int (nI N), .int 0]))]) := hD
  refine lv_aload_n S.1 S.2.1 dX2_init_13 rfl (lv_at hl 0 rfl) ?_
  refine lv_aload_n S.1 S.2.1 dX2_init_14 rfl (lv_at hl 0 rfl) ?_
  refine va_get (D := D) (ci := 2) (v := .int (nI N)) (C := RX2) (T := TX2) (N := 5) S.1 S.2.1 S.2.2.2.2 (by decide +kernel) S.2.2.2.1 hK hP 0 rfl rfl 3 (by decide) (S.2.2.2.2 (.fieldLink RX2 15 "PrefixLeader$Lines" "room" "I") (by decide +kernel)) (fun _ h9 => h9) rfl dX2_init_15 ?_
  refine n_newI (N := N) S (by decide +kernel) hK hP hD hS hA (nI_pos (by omega)) (nI_clamp (by omega)) (show N * 4 ≤ 536870912 by omega) (show 1 ≤ 3 by omega) (show 0 + N ≤ 3 * N by omega) dX2_init_18 (fun q1 H hP hD hS => ?_)
  have hP : va_P D vwCl ([(h0, .inr (2, [.null, .null, .null, .int (nI N), .int 0])), (q1, .inl (cy.1, N, .inl (fun _ => 0)))]) H := hP
  have hD : va_D A ([(h0, .inr (2, [.null, .null, .null, .int (nI N), .int 0])), (q1, .inl (cy.1, N, .inl (fun _ => 0)))]) := hD
  refine W.widen (k := 1) (n := 0 + N) (by omega) (by omega) ?_
  refine va_putF (D := D) (ci := 2) (v := .ref q1) (ty := .array .int) (C := RX2) (T := TX2) (N := 5) S.1 S.2.1 S.2.2.2.2 (by decide +kernel) tyX2 tyX2_ok nmX2 S.2.2.2.1 hK hP hD hS 0 rfl rfl 0 (by decide) (S.2.2.2.2 (.fieldLink RX2 21 "PrefixLeader$Lines" "address" "[I") (by decide +kernel)) (fun _ h9 => h9) rfl hin rfl (by decide +kernel) rfl rfl (Nat.le_of_ble_eq_true rfl) dX2_init_20 (fun H locs hP hD hS => ?_)
  have hP : va_P D vwCl ([(h0, .inr (2, [.ref q1, .null, .null, .int (nI N), .int 0])), (q1, .inl (cy.1, N, .inl (fun _ => 0)))]) H := hP
  have hD : va_D A ([(h0, .inr (2, [.ref q1, .null, .null, .int (nI N), .int 0])), (q1, .inl (cy.1, N, .inl (fun _ => 0)))]) := hD
  refine lv_aload_n S.1 S.2.1 dX2_init_23 rfl (lv_at hl 0 rfl) ?_
  refine lv_aload_n S.1 S.2.1 dX2_init_24 rfl (lv_at hl 0 rfl) ?_
  refine va_get (D := D) (ci := 2) (v := .int (nI N)) (C := RX2) (T := TX2) (N := 5) S.1 S.2.1 S.2.2.2.2 (by decide +kernel) S.2.2.2.1 hK hP 0 rfl rfl 3 (by decide) (S.2.2.2.2 (.fieldLink RX2 15 "PrefixLeader$Lines" "room" "I") (by decide +kernel)) (fun _ h9 => h9) rfl dX2_init_25 ?_
  refine n_newI (N := N) S (by decide +kernel) hK hP hD hS hA (nI_pos (by omega)) (nI_clamp (by omega)) (show N * 4 ≤ 536870912 by omega) (show 2 ≤ 3 by omega) (show 0 + N + N ≤ 3 * N by omega) dX2_init_28 (fun q2 H hP hD hS => ?_)
  have hP : va_P D vwCl ([(h0, .inr (2, [.ref q1, .null, .null, .int (nI N), .int 0])), (q1, .inl (cy.1, N, .inl (fun _ => 0))), (q2, .inl (cy.1, N, .inl (fun _ => 0)))]) H := hP
  have hD : va_D A ([(h0, .inr (2, [.ref q1, .null, .null, .int (nI N), .int 0])), (q1, .inl (cy.1, N, .inl (fun _ => 0))), (q2, .inl (cy.1, N, .inl (fun _ => 0)))]) := hD
  refine W.widen (k := 2) (n := 0 + N + N) (by omega) (by omega) ?_
  refine va_putF (D := D) (ci := 2) (v := .ref q2) (ty := .array .int) (C := RX2) (T := TX2) (N := 5) S.1 S.2.1 S.2.2.2.2 (by decide +kernel) tyX2 tyX2_ok nmX2 S.2.2.2.1 hK hP hD hS 0 rfl rfl 1 (by decide) (S.2.2.2.2 (.fieldLink RX2 25 "PrefixLeader$Lines" "bits" "[I") (by decide +kernel)) (fun _ h9 => h9) rfl hin rfl (by decide +kernel) rfl rfl (Nat.le_of_ble_eq_true rfl) dX2_init_30 (fun H locs hP hD hS => ?_)
  have hP : va_P D vwCl ([(h0, .inr (2, [.ref q1, .ref q2, .null, .int (nI N), .int 0])), (q1, .inl (cy.1, N, .inl (fun _ => 0))), (q2, .inl (cy.1, N, .inl (fun _ => 0)))]) H := hP
  have hD : va_D A ([(h0, .inr (2, [.ref q1, .ref q2, .null, .int (nI N), .int 0])), (q1, .inl (cy.1, N, .inl (fun _ => 0))), (q2, .inl (cy.1, N, .inl (fun _ => 0)))]) := hD
  refine lv_aload_n S.1 S.2.1 dX2_init_33 rfl (lv_at hl 0 rfl) ?_
  refine lv_aload_n S.1 S.2.1 dX2_init_34 rfl (lv_at hl 0 rfl) ?_
  refine va_get (D := D) (ci := 2) (v := .int (nI N)) (C := RX2) (T := TX2) (N := 5) S.1 S.2.1 S.2.2.2.2 (by decide +kernel) S.2.2.2.1 hK hP 0 rfl rfl 3 (by decide) (S.2.2.2.2 (.fieldLink RX2 15 "PrefixLeader$Lines" "room" "I") (by decide +kernel)) (fun _ h9 => h9) rfl dX2_init_35 ?_
  refine n_newI (N := N) S (by decide +kernel) hK hP hD hS hA (nI_pos (by omega)) (nI_clamp (by omega)) (show N * 4 ≤ 536870912 by omega) (show 3 ≤ 3 by omega) (show 0 + N + N + N ≤ 3 * N by omega) dX2_init_38 (fun q3 H hP hD hS => ?_)
  have hP : va_P D vwCl ([(h0, .inr (2, [.ref q1, .ref q2, .null, .int (nI N), .int 0])), (q1, .inl (cy.1, N, .inl (fun _ => 0))), (q2, .inl (cy.1, N, .inl (fun _ => 0))), (q3, .inl (cy.1, N, .inl (fun _ => 0)))]) H := hP
  have hD : va_D A ([(h0, .inr (2, [.ref q1, .ref q2, .null, .int (nI N), .int 0])), (q1, .inl (cy.1, N, .inl (fun _ => 0))), (q2, .inl (cy.1, N, .inl (fun _ => 0))), (q3, .inl (cy.1, N, .inl (fun _ => 0)))]) := hD
  refine W.widen (k := 3) (n := 0 + N + N + N) (by omega) (by omega) ?_
  refine va_putF (D := D) (ci := 2) (v := .ref q3) (ty := .array .int) (C := RX2) (T := TX2) (N := 5) S.1 S.2.1 S.2.2.2.2 (by decide +kernel) tyX2 tyX2_ok nmX2 S.2.2.2.1 hK hP hD hS 0 rfl rfl 2 (by decide) (S.2.2.2.2 (.fieldLink RX2 28 "PrefixLeader$Lines" "goal" "[I") (by decide +kernel)) (fun _ h9 => h9) rfl hin rfl (by decide +kernel) rfl rfl (Nat.le_of_ble_eq_true rfl) dX2_init_40 (fun H locs hP hD hS => ?_)
  have hP : va_P D vwCl ([(h0, .inr (2, [.ref q1, .ref q2, .ref q3, .int (nI N), .int 0])), (q1, .inl (cy.1, N, .inl (fun _ => 0))), (q2, .inl (cy.1, N, .inl (fun _ => 0))), (q3, .inl (cy.1, N, .inl (fun _ => 0)))]) H := hP
  have hD : va_D A ([(h0, .inr (2, [.ref q1, .ref q2, .ref q3, .int (nI N), .int 0])), (q1, .inl (cy.1, N, .inl (fun _ => 0))), (q2, .inl (cy.1, N, .inl (fun _ => 0))), (q3, .inl (cy.1, N, .inl (fun _ => 0)))]) := hD
  refine W.widen (k := 3) (n := 3 * N) (by omega) (by omega) ?_
  exact W.vret S.1 S.2.1 hr (fun t ht hW => ⟨⟨(fun k => ([h0, q1, q2, q3] : List Nat).getD k 0), rfl, rfl, by rw [ht]; exact hP, hD⟩, hS.F ht⟩) hS.2.2 dX2_init_43 hlk
set_option maxHeartbeats 4000000 in
set_option maxRecDepth 100000 in
theorem n_X5_init (l : Launch) (D : va_G) (cy : gCy) (h0 sz : Nat) : nMet l yX5_init wsX5_init { frames := 1, cells := 6, slots := 1536, locals := 12 } D cy [.ref h0] (h0, .inr (4, [.null, .null, .null, .null, .null, .null, .int 0])) sz (fun u => bT cy h0 u) 6 (1536) := by
  refine nEnter (cc := cX5_init) (maxL := 1) (by decide) rfl rfl (Nat.le_of_ble_eq_true rfl) ?_
  intro p e s m below meth c ls A S hr hlk hin hK hN hO hP hD hS hA hl
  have S : CallFix p m c cX5_init 1 s _ wsX5_init RX5 := S
  have hl : lv_has ls 1 [(0, .ref h0)] := hl
  refine lv_aload_n S.1 S.2.1 dX5_init_0 rfl (lv_at hl 0 rfl) ?_
  refine W.objInit S.1 S.2.1 S.2.2.2.1 (S.2.2.2.2 (.methodLink RX5 3 objectInit) (by decide +kernel)) (S.2.2.2.2 (.instanceMethod objectInit) (by decide +kernel)) (S.2.2.2.2 _ (by decide +kernel)) rfl (by rw [S.2.2.1]; exact hl.1) rfl dX5_init_1 (Nat.le_of_ble_eq_true rfl) (Nat.le_of_ble_eq_true rfl) ?_
  refine W.eq (g2 := F0 m 4 ls []) rfl ?_
  refine lv_aload_n S.1 S.2.1 dX5_init_4 rfl (lv_at hl 0 rfl) ?_
  refine lv_sipush (v := (256 : Int32)) S.1 S.2.1 dX5_init_5 (by decide) ?_
  refine n_newI (N := 256) S (by decide +kernel) hK hP hD hS hA (by decide) (by decide) (by decide) (show 1 ≤ 6 by omega) (show 0 + 256 ≤ 1536 by omega) dX5_init_8 (fun q1 H hP hD hS => ?_)
  have hP : va_P D vwCl ([(h0, .inr (4, [.null, .null, .null, .null, .null, .null, .int 0])), (q1, .inl (cy.1, 256, .inl (fun _ => 0)))]) H := hP
  have hD : va_D A ([(h0, .inr (4, [.null, .null, .null, .null, .null, .null, .int 0])), (q1, .inl (cy.1, 256, .inl (fun _ => 0)))]) := hD
  refine W.widen (k := 1) (n := 0 + 256) (by omega) (by omega) ?_
  refine va_putF (D := D) (ci := 4) (v := .ref q1) (ty := .array .int) (C := RX5) (T := TX5) (N := 7) S.1 S.2.1 S.2.2.2.2 (by decide +kernel) tyX5 tyX5_ok nmX5 S.2.2.2.1 hK hP hD hS 0 rfl rfl 0 (by decide) (S.2.2.2.2 (.fieldLink RX5 11 "PrefixLeader$Tree" "address" "[I") (by decide +kernel)) (fun _ h9 => h9) rfl hin rfl (by decide +kernel) rfl rfl (Nat.le_of_ble_eq_true rfl) dX5_init_10 (fun H locs hP hD hS => ?_)
  have hP : va_P D vwCl ([(h0, .inr (4, [.ref q1, .null, .null, .null, .null, .null, .int 0])), (q1, .inl (cy.1, 256, .inl (fun _ => 0)))]) H := hP
  have hD : va_D A ([(h0, .inr (4, [.ref q1, .null, .null, .null, .null, .null, .int 0])), (q1, .inl (cy.1, 256, .inl (fun _ => 0)))]) := hD
  refine lv_aload_n S.1 S.2.1 dX5_init_13 rfl (lv_at hl 0 rfl) ?_
  refine lv_sipush (v := (256 : Int32)) S.1 S.2.1 dX5_init_14 (by decide) ?_
  refine n_newI (N := 256) S (by decide +kernel) hK hP hD hS hA (by decide) (by decide) (by decide) (show 2 ≤ 6 by omega) (show 0 + 256 + 256 ≤ 1536 by omega) dX5_init_17 (fun q2 H hP hD hS => ?_)
  have hP : va_P D vwCl ([(h0, .inr (4, [.ref q1, .null, .null, .null, .null, .null, .int 0])), (q1, .inl (cy.1, 256, .inl (fun _ => 0))), (q2, .inl (cy.1, 256, .inl (fun _ => 0)))]) H := hP
  have hD : va_D A ([(h0, .inr (4, [.ref q1, .null, .null, .null, .null, .null, .int 0])), (q1, .inl (cy.1, 256, .inl (fun _ => 0))), (q2, .inl (cy.1, 256, .inl (fun _ => 0)))]) := hD
  refine W.widen (k := 2) (n := 0 + 512) (by omega) (by omega) ?_
  refine va_putF (D := D) (ci := 4) (v := .ref q2) (ty := .array .int) (C := RX5) (T := TX5) (N := 7) S.1 S.2.1 S.2.2.2.2 (by decide +kernel) tyX5 tyX5_ok nmX5 S.2.2.2.1 hK hP hD hS 0 rfl rfl 1 (by decide) (S.2.2.2.2 (.fieldLink RX5 15 "PrefixLeader$Tree" "bits" "[I") (by decide +kernel)) (fun _ h9 => h9) rfl hin rfl (by decide +kernel) rfl rfl (Nat.le_of_ble_eq_true rfl) dX5_init_19 (fun H locs hP hD hS => ?_)
  have hP : va_P D vwCl ([(h0, .inr (4, [.ref q1, .ref q2, .null, .null, .null, .null, .int 0])), (q1, .inl (cy.1, 256, .inl (fun _ => 0))), (q2, .inl (cy.1, 256, .inl (fun _ => 0)))]) H := hP
  have hD : va_D A ([(h0, .inr (4, [.ref q1, .ref q2, .null, .null, .null, .null, .int 0])), (q1, .inl (cy.1, 256, .inl (fun _ => 0))), (q2, .inl (cy.1, 256, .inl (fun _ => 0)))]) := hD
  refine lv_aload_n S.1 S.2.1 dX5_init_22 rfl (lv_at hl 0 rfl) ?_
  refine lv_sipush (v := (256 : Int32)) S.1 S.2.1 dX5_init_23 (by decide) ?_
  refine n_newI (N := 256) S (by decide +kernel) hK hP hD hS hA (by decide) (by decide) (by decide) (show 3 ≤ 6 by omega) (show 0 + 512 + 256 ≤ 1536 by omega) dX5_init_26 (fun q3 H hP hD hS => ?_)
  have hP : va_P D vwCl ([(h0, .inr (4, [.ref q1, .ref q2, .null, .null, .null, .null, .int 0])), (q1, .inl (cy.1, 256, .inl (fun _ => 0))), (q2, .inl (cy.1, 256, .inl (fun _ => 0))), (q3, .inl (cy.1, 256, .inl (fun _ => 0)))]) H := hP
  have hD : va_D A ([(h0, .inr (4, [.ref q1, .ref q2, .null, .null, .null, .null, .int 0])), (q1, .inl (cy.1, 256, .inl (fun _ => 0))), (q2, .inl (cy.1, 256, .inl (fun _ => 0))), (q3, .inl (cy.1, 256, .inl (fun _ => 0)))]) := hD
  refine W.widen (k := 3) (n := 0 + 768) (by omega) (by omega) ?_
  refine va_putF (D := D) (ci := 4) (v := .ref q3) (ty := .array .int) (C := RX5) (T := TX5) (N := 7) S.1 S.2.1 S.2.2.2.2 (by decide +kernel) tyX5 tyX5_ok nmX5 S.2.2.2.1 hK hP hD hS 0 rfl rfl 2 (by decide) (S.2.2.2.2 (.fieldLink RX5 18 "PrefixLeader$Tree" "goal" "[I") (by decide +kernel)) (fun _ h9 => h9) rfl hin rfl (by decide +kernel) rfl rfl (Nat.le_of_ble_eq_true rfl) dX5_init_28 (fun H locs hP hD hS => ?_)
  have hP : va_P D vwCl ([(h0, .inr (4, [.ref q1, .ref q2, .ref q3, .null, .null, .null, .int 0])), (q1, .inl (cy.1, 256, .inl (fun _ => 0))), (q2, .inl (cy.1, 256, .inl (fun _ => 0))), (q3, .inl (cy.1, 256, .inl (fun _ => 0)))]) H := hP
  have hD : va_D A ([(h0, .inr (4, [.ref q1, .ref q2, .ref q3, .null, .null, .null, .int 0])), (q1, .inl (cy.1, 256, .inl (fun _ => 0))), (q2, .inl (cy.1, 256, .inl (fun _ => 0))), (q3, .inl (cy.1, 256, .inl (fun _ => 0)))]) := hD
  refine lv_aload_n S.1 S.2.1 dX5_init_31 rfl (lv_at hl 0 rfl) ?_
  refine lv_sipush (v := (256 : Int32)) S.1 S.2.1 dX5_init_32 (by decide) ?_
  refine n_newI (N := 256) S (by decide +kernel) hK hP hD hS hA (by decide) (by decide) (by decide) (show 4 ≤ 6 by omega) (show 0 + 768 + 256 ≤ 1536 by omega) dX5_init_35 (fun q4 H hP hD hS => ?_)
  have hP : va_P D vwCl ([(h0, .inr (4, [.ref q1, .ref q2, .ref q3, .null, .null, .null, .int 0])), (q1, .inl (cy.1, 256, .inl (fun _ => 0))), (q2, .inl (cy.1, 256, .inl (fun _ => 0))), (q3, .inl (cy.1, 256, .inl (fun _ => 0))), (q4, .inl (cy.1, 256, .inl (fun _ => 0)))]) H := hP
  have hD : va_D A ([(h0, .inr (4, [.ref q1, .ref q2, .ref q3, .null, .null, .null, .int 0])), (q1, .inl (cy.1, 256, .inl (fun _ => 0))), (q2, .inl (cy.1, 256, .inl (fun _ => 0))), (q3, .inl (cy.1, 256, .inl (fun _ => 0))), (q4, .inl (cy.1, 256, .inl (fun _ => 0)))]) := hD
  refine W.widen (k := 4) (n := 0 + 1024) (by omega) (by omega) ?_
  refine va_putF (D := D) (ci := 4) (v := .ref q4) (ty := .array .int) (C := RX5) (T := TX5) (N := 7) S.1 S.2.1 S.2.2.2.2 (by decide +kernel) tyX5 tyX5_ok nmX5 S.2.2.2.1 hK hP hD hS 0 rfl rfl 3 (by decide) (S.2.2.2.2 (.fieldLink RX5 21 "PrefixLeader$Tree" "low" "[I") (by decide +kernel)) (fun _ h9 => h9) rfl hin rfl (by decide +kernel) rfl rfl (Nat.le_of_ble_eq_true rfl) dX5_init_37 (fun H locs hP hD hS => ?_)
  have hP : va_P D vwCl ([(h0, .inr (4, [.ref q1, .ref q2, .ref q3, .ref q4, .null, .null, .int 0])), (q1, .inl (cy.1, 256, .inl (fun _ => 0))), (q2, .inl (cy.1, 256, .inl (fun _ => 0))), (q3, .inl (cy.1, 256, .inl (fun _ => 0))), (q4, .inl (cy.1, 256, .inl (fun _ => 0)))]) H := hP
  have hD : va_D A ([(h0, .inr (4, [.ref q1, .ref q2, .ref q3, .ref q4, .null, .null, .int 0])), (q1, .inl (cy.1, 256, .inl (fun _ => 0))), (q2, .inl (cy.1, 256, .inl (fun _ => 0))), (q3, .inl (cy.1, 256, .inl (fun _ => 0))), (q4, .inl (cy.1, 256, .inl (fun _ => 0)))]) := hD
  refine lv_aload_n S.1 S.2.1 dX5_init_40 rfl (lv_at hl 0 rfl) ?_
  refine lv_sipush (v := (256 : Int32)) S.1 S.2.1 dX5_init_41 (by decide) ?_
  refine n_newI (N := 256) S (by decide +kernel) hK hP hD hS hA (by decide) (by decide) (by decide) (show 5 ≤ 6 by omega) (show 0 + 1024 + 256 ≤ 1536 by omega) dX5_init_44 (fun q5 H hP hD hS => ?_)
  have hP : va_P D vwCl ([(h0, .inr (4, [.ref q1, .ref q2, .ref q3, .ref q4, .null, .null, .int 0])), (q1, .inl (cy.1, 256, .inl (fun _ => 0))), (q2, .inl (cy.1, 256, .inl (fun _ => 0))), (q3, .inl (cy.1, 256, .inl (fun _ => 0))), (q4, .inl (cy.1, 256, .inl (fun _ => 0))), (q5, .inl (cy.1, 256, .inl (fun _ => 0)))]) H := hP
  have hD : va_D A ([(h0, .inr (4, [.ref q1, .ref q2, .ref q3, .ref q4, .null, .null, .int 0])), (q1, .inl (cy.1, 256, .inl (fun _ => 0))), (q2, .inl (cy.1, 256, .inl (fun _ => 0))), (q3, .inl (cy.1, 256, .inl (fun _ => 0))), (q4, .inl (cy.1, 256, .inl (fun _ => 0))), (q5, .inl (cy.1, 256, .inl (fun _ => 0)))]) := hD
  refine W.widen (k := 5) (n := 0 + 1280) (by omega) (by omega) ?_
  refine va_putF (D := D) (ci := 4) (v := .ref q5) (ty := .array .int) (C := RX5) (T := TX5) (N := 7) S.1 S.2.1 S.2.2.2.2 (by decide +kernel) tyX5 tyX5_ok nmX5 S.2.2.2.1 hK hP hD hS 0 rfl rfl 4 (by decide) (S.2.2.2.2 (.fieldLink RX5 24 "PrefixLeader$Tree" "high" "[I") (by decide +kernel)) (fun _ h9 => h9) rfl hin rfl (by decide +kernel) rfl rfl (Nat.le_of_ble_eq_true rfl) dX5_init_46 (fun H locs hP hD hS => ?_)
  have hP : va_P D vwCl ([(h0, .inr (4, [.ref q1, .ref q2, .ref q3, .ref q4, .ref q5, .null, .int 0])), (q1, .inl (cy.1, 256, .inl (fun _ => 0))), (q2, .inl (cy.1, 256, .inl (fun _ => 0))), (q3, .inl (cy.1, 256, .inl (fun _ => 0))), (q4, .inl (cy.1, 256, .inl (fun _ => 0))), (q5, .inl (cy.1, 256, .inl (fun _ => 0)))]) H := hP
  have hD : va_D A ([(h0, .inr (4, [.ref q1, .ref q2, .ref q3, .ref q4, .ref q5, .null, .int 0])), (q1, .inl (cy.1, 256, .inl (fun _ => 0))), (q2, .inl (cy.1, 256, .inl (fun _ => 0))), (q3, .inl (cy.1, 256, .inl (fun _ => 0))), (q4, .inl (cy.1, 256, .inl (fun _ => 0))), (q5, .inl (cy.1, 256, .inl (fun _ => 0)))]) := hD
  refine lv_aload_n S.1 S.2.1 dX5_init_49 rfl (lv_at hl 0 rfl) ?_
  refine lv_sipush (v := (256 : Int32)) S.1 S.2.1 dX5_init_50 (by decide) ?_
  refine n_newI (N := 256) S (by decide +kernel) hK hP hD hS hA (by decide) (by decide) (by decide) (show 6 ≤ 6 by omega) (show 0 + 1280 + 256 ≤ 1536 by omega) dX5_init_53 (fun q6 H hP hD hS => ?_)
  have hP : va_P D vwCl ([(h0, .inr (4, [.ref q1, .ref q2, .ref q3, .ref q4, .ref q5, .null, .int 0])), (q1, .inl (cy.1, 256, .inl (fun _ => 0))), (q2, .inl (cy.1, 256, .inl (fun _ => 0))), (q3, .inl (cy.1, 256, .inl (fun _ => 0))), (q4, .inl (cy.1, 256, .inl (fun _ => 0))), (q5, .inl (cy.1, 256, .inl (fun _ => 0))), (q6, .inl (cy.1, 256, .inl (fun _ => 0)))]) H := hP
  have hD : va_D A ([(h0, .inr (4, [.ref q1, .ref q2, .ref q3, .ref q4, .ref q5, .null, .int 0])), (q1, .inl (cy.1, 256, .inl (fun _ => 0))), (q2, .inl (cy.1, 256, .inl (fun _ => 0))), (q3, .inl (cy.1, 256, .inl (fun _ => 0))), (q4, .inl (cy.1, 256, .inl (fun _ => 0))), (q5, .inl (cy.1, 256, .inl (fun _ => 0))), (q6, .inl (cy.1, 256, .inl (fun _ => 0)))]) := hD
  refine W.widen (k := 6) (n := 0 + 1536) (by omega) (by omega) ?_
  refine va_putF (D := D) (ci := 4) (v := .ref q6) (ty := .array .int) (C := RX5) (T := TX5) (N := 7) S.1 S.2.1 S.2.2.2.2 (by decide +kernel) tyX5 tyX5_ok nmX5 S.2.2.2.1 hK hP hD hS 0 rfl rfl 5 (by decide) (S.2.2.2.2 (.fieldLink RX5 27 "PrefixLeader$Tree" "sets" "[I") (by decide +kernel)) (fun _ h9 => h9) rfl hin rfl (by decide +kernel) rfl rfl (Nat.le_of_ble_eq_true rfl) dX5_init_55 (fun H locs hP hD hS => ?_)
  have hP : va_P D vwCl ([(h0, .inr (4, [.ref q1, .ref q2, .ref q3, .ref q4, .ref q5, .ref q6, .int 0])), (q1, .inl (cy.1, 256, .inl (fun _ => 0))), (q2, .inl (cy.1, 256, .inl (fun _ => 0))), (q3, .inl (cy.1, 256, .inl (fun _ => 0))), (q4, .inl (cy.1, 256, .inl (fun _ => 0))), (q5, .inl (cy.1, 256, .inl (fun _ => 0))), (q6, .inl (cy.1, 256, .inl (fun _ => 0)))]) H := hP
  have hD : va_D A ([(h0, .inr (4, [.ref q1, .ref q2, .ref q3, .ref q4, .ref q5, .ref q6, .int 0])), (q1, .inl (cy.1, 256, .inl (fun _ => 0))), (q2, .inl (cy.1, 256, .inl (fun _ => 0))), (q3, .inl (cy.1, 256, .inl (fun _ => 0))), (q4, .inl (cy.1, 256, .inl (fun _ => 0))), (q5, .inl (cy.1, 256, .inl (fun _ => 0))), (q6, .inl (cy.1, 256, .inl (fun _ => 0)))]) := hD
  refine W.widen (k := 6) (n := 1536) (by omega) (by omega) ?_
  exact W.vret S.1 S.2.1 hr (fun t ht hW => ⟨⟨(fun k => ([h0, q1, q2, q3, q4, q5, q6] : List Nat).getD k 0), rfl, rfl, by rw [ht]; exact hP, hD⟩, hS.F ht⟩) hS.2.2 dX5_init_58 hlk
set_option maxHeartbeats 4000000 in
set_option maxRecDepth 100000 in
theorem n_X3_init (l : Launch) (D : va_G) (cy : gCy) (h0 sz : Nat) : nMet l yX3_init wsX3_init { frames := 1, cells := 3, slots := 291, locals := 12 } D cy [.ref h0] (h0, .inr (3, [.null, .null, .int 0, .long 0, .null, .int 0])) sz (fun u => bS cy h0 u) 3 (291) := by
  refine nEnter (cc := cX3_init) (maxL := 1) (by decide) rfl rfl (Nat.le_of_ble_eq_true rfl) ?_
  intro p e s m below meth c ls A S hr hlk hin hK hN hO hP hD hS hA hl
  have S : CallFix p m c cX3_init 1 s _ wsX3_init RX3 := S
  have hl : lv_has ls 1 [(0, .ref h0)] := hl
  refine lv_aload_n S.1 S.2.1 dX3_init_0 rfl (lv_at hl 0 rfl) ?_
  refine W.objInit S.1 S.2.1 S.2.2.2.1 (S.2.2.2.2 (.methodLink RX3 3 objectInit) (by decide +kernel)) (S.2.2.2.2 (.instanceMethod objectInit) (by decide +kernel)) (S.2.2.2.2 _ (by decide +kernel)) rfl (by rw [S.2.2.1]; exact hl.1) rfl dX3_init_1 (Nat.le_of_ble_eq_true rfl) (Nat.le_of_ble_eq_true rfl) ?_
  refine W.eq (g2 := F0 m 4 ls []) rfl ?_
  refine lv_aload_n S.1 S.2.1 dX3_init_4 rfl (lv_at hl 0 rfl) ?_
  refine lv_sipush (v := (129 : Int32)) S.1 S.2.1 dX3_init_5 (by decide) ?_
  refine n_newJ (N := 129) S (by decide +kernel) hK hP hD hS hA (by decide) (by decide) (by decide) (show 1 ≤ 3 by omega) (show 0 + 129 ≤ 291 by omega) dX3_init_8 (fun q1 H hP hD hS => ?_)
  have hP : va_P D vwCl ([(h0, .inr (3, [.null, .null, .int 0, .long 0, .null, .int 0])), (q1, .inl (cy.2.1, 129, .inr (.inl (fun _ => 0))))]) H := hP
  have hD : va_D A ([(h0, .inr (3, [.null, .null, .int 0, .long 0, .null, .int 0])), (q1, .inl (cy.2.1, 129, .inr (.inl (fun _ => 0))))]) := hD
  refine W.widen (k := 1) (n := 0 + 129) (by omega) (by omega) ?_
  refine va_putF (D := D) (ci := 3) (v := .ref q1) (ty := .array .long) (C := RX3) (T := TX3) (N := 6) S.1 S.2.1 S.2.2.2.2 (by decide +kernel) tyX3 tyX3_ok nmX3 S.2.2.2.1 hK hP hD hS 0 rfl rfl 0 (by decide) (S.2.2.2.2 (.fieldLink RX3 11 "PrefixLeader$Spans" "first" "[J") (by decide +kernel)) (fun _ h9 => h9) rfl hin rfl (by decide +kernel) rfl rfl (Nat.le_of_ble_eq_true rfl) dX3_init_10 (fun H locs hP hD hS => ?_)
  have hP : va_P D vwCl ([(h0, .inr (3, [.ref q1, .null, .int 0, .long 0, .null, .int 0])), (q1, .inl (cy.2.1, 129, .inr (.inl (fun _ => 0))))]) H := hP
  have hD : va_D A ([(h0, .inr (3, [.ref q1, .null, .int 0, .long 0, .null, .int 0])), (q1, .inl (cy.2.1, 129, .inr (.inl (fun _ => 0))))]) := hD
  refine lv_aload_n S.1 S.2.1 dX3_init_13 rfl (lv_at hl 0 rfl) ?_
  refine lv_sipush (v := (129 : Int32)) S.1 S.2.1 dX3_init_14 (by decide) ?_
  refine n_newI (N := 129) S (by decide +kernel) hK hP hD hS hA (by decide) (by decide) (by decide) (show 2 ≤ 3 by omega) (show 0 + 129 + 129 ≤ 291 by omega) dX3_init_17 (fun q2 H hP hD hS => ?_)
  have hP : va_P D vwCl ([(h0, .inr (3, [.ref q1, .null, .int 0, .long 0, .null, .int 0])), (q1, .inl (cy.2.1, 129, .inr (.inl (fun _ => 0)))), (q2, .inl (cy.1, 129, .inl (fun _ => 0)))]) H := hP
  have hD : va_D A ([(h0, .inr (3, [.ref q1, .null, .int 0, .long 0, .null, .int 0])), (q1, .inl (cy.2.1, 129, .inr (.inl (fun _ => 0)))), (q2, .inl (cy.1, 129, .inl (fun _ => 0)))]) := hD
  refine W.widen (k := 2) (n := 0 + 258) (by omega) (by omega) ?_
  refine va_putF (D := D) (ci := 3) (v := .ref q2) (ty := .array .int) (C := RX3) (T := TX3) (N := 6) S.1 S.2.1 S.2.2.2.2 (by decide +kernel) tyX3 tyX3_ok nmX3 S.2.2.2.1 hK hP hD hS 0 rfl rfl 1 (by decide) (S.2.2.2.2 (.fieldLink RX3 15 "PrefixLeader$Spans" "goal" "[I") (by decide +kernel)) (fun _ h9 => h9) rfl hin rfl (by decide +kernel) rfl rfl (Nat.le_of_ble_eq_true rfl) dX3_init_19 (fun H locs hP hD hS => ?_)
  have hP : va_P D vwCl ([(h0, .inr (3, [.ref q1, .ref q2, .int 0, .long 0, .null, .int 0])), (q1, .inl (cy.2.1, 129, .inr (.inl (fun _ => 0)))), (q2, .inl (cy.1, 129, .inl (fun _ => 0)))]) H := hP
  have hD : va_D A ([(h0, .inr (3, [.ref q1, .ref q2, .int 0, .long 0, .null, .int 0])), (q1, .inl (cy.2.1, 129, .inr (.inl (fun _ => 0)))), (q2, .inl (cy.1, 129, .inl (fun _ => 0)))]) := hD
  refine lv_aload_n S.1 S.2.1 dX3_init_22 rfl (lv_at hl 0 rfl) ?_
  refine lv_bipush (v := (33 : Int32)) S.1 S.2.1 dX3_init_23 (by decide) ?_
  refine n_newI (N := 33) S (by decide +kernel) hK hP hD hS hA (by decide) (by decide) (by decide) (show 3 ≤ 3 by omega) (show 0 + 258 + 33 ≤ 291 by omega) dX3_init_25 (fun q3 H hP hD hS => ?_)
  have hP : va_P D vwCl ([(h0, .inr (3, [.ref q1, .ref q2, .int 0, .long 0, .null, .int 0])), (q1, .inl (cy.2.1, 129, .inr (.inl (fun _ => 0)))), (q2, .inl (cy.1, 129, .inl (fun _ => 0))), (q3, .inl (cy.1, 33, .inl (fun _ => 0)))]) H := hP
  have hD : va_D A ([(h0, .inr (3, [.ref q1, .ref q2, .int 0, .long 0, .null, .int 0])), (q1, .inl (cy.2.1, 129, .inr (.inl (fun _ => 0)))), (q2, .inl (cy.1, 129, .inl (fun _ => 0))), (q3, .inl (cy.1, 33, .inl (fun _ => 0)))]) := hD
  refine W.widen (k := 3) (n := 0 + 291) (by omega) (by omega) ?_
  refine va_putF (D := D) (ci := 3) (v := .ref q3) (ty := .array .int) (C := RX3) (T := TX3) (N := 6) S.1 S.2.1 S.2.2.2.2 (by decide +kernel) tyX3 tyX3_ok nmX3 S.2.2.2.1 hK hP hD hS 0 rfl rfl 4 (by decide) (S.2.2.2.2 (.fieldLink RX3 19 "PrefixLeader$Spans" "open" "[I") (by decide +kernel)) (fun _ h9 => h9) rfl hin rfl (by decide +kernel) rfl rfl (Nat.le_of_ble_eq_true rfl) dX3_init_27 (fun H locs hP hD hS => ?_)
  have hP : va_P D vwCl ([(h0, .inr (3, [.ref q1, .ref q2, .int 0, .long 0, .ref q3, .int 0])), (q1, .inl (cy.2.1, 129, .inr (.inl (fun _ => 0)))), (q2, .inl (cy.1, 129, .inl (fun _ => 0))), (q3, .inl (cy.1, 33, .inl (fun _ => 0)))]) H := hP
  have hD : va_D A ([(h0, .inr (3, [.ref q1, .ref q2, .int 0, .long 0, .ref q3, .int 0])), (q1, .inl (cy.2.1, 129, .inr (.inl (fun _ => 0)))), (q2, .inl (cy.1, 129, .inl (fun _ => 0))), (q3, .inl (cy.1, 33, .inl (fun _ => 0)))]) := hD
  refine W.widen (k := 3) (n := 291) (by omega) (by omega) ?_
  exact W.vret S.1 S.2.1 hr (fun t ht hW => ⟨⟨(fun k => ([h0, q1, q2, q3] : List Nat).getD k 0), rfl, rfl, by rw [ht]; exact hP, hD⟩, hS.F ht⟩) hS.2.2 dX3_init_30 hlk
set_option maxHeartbeats 4000000 in
set_option maxRecDepth 100000 in
theorem n_X1_init (l : Launch) (D : va_G) (cy : gCy) (h0 sz : Nat) : nMet l yX1_init wsX1_init { frames := 1, cells := 0, slots := 0, locals := 12 } D cy [.ref h0] (h0, .inr (1, [.long 0, .long 0])) sz (fun u => bD cy h0 u) 0 (0) := by
  refine nEnter (cc := cX1_init) (maxL := 1) (by decide) rfl rfl (Nat.le_of_ble_eq_true rfl) ?_
  intro p e s m below meth c ls A S hr hlk hin hK hN hO hP hD hS hA hl
  have S : CallFix p m c cX1_init 1 s _ wsX1_init RX1 := S
  have hl : lv_has ls 1 [(0, .ref h0)] := hl
  refine lv_aload_n S.1 S.2.1 dX1_init_0 rfl (lv_at hl 0 rfl) ?_
  refine W.objInit S.1 S.2.1 S.2.2.2.1 (S.2.2.2.2 (.methodLink RX1 5 objectInit) (by decide +kernel)) (S.2.2.2.2 (.instanceMethod objectInit) (by decide +kernel)) (S.2.2.2.2 _ (by decide +kernel)) rfl (by rw [S.2.2.1]; exact hl.1) rfl dX1_init_1 (Nat.le_of_ble_eq_true rfl) (Nat.le_of_ble_eq_true rfl) ?_
  refine W.eq (g2 := F0 m 4 ls []) rfl ?_
  refine W.widen (k := 0) (n := 0) (by omega) (by omega) ?_
  exact W.vret S.1 S.2.1 hr (fun t ht hW => ⟨⟨(fun k => ([h0] : List Nat).getD k 0), rfl, rfl, by rw [ht]; exact hP, hD⟩, hS.F ht⟩) hS.2.2 dX1_init_4 hlk
set_option maxHeartbeats 4000000 in
set_option maxRecDepth 100000 in
theorem n_X0_init (l : Launch) (D : va_G) (cy : gCy) (h0 sz : Nat) : nMet l yX0_init wsX0_init { frames := 1, cells := 2, slots := 124, locals := 12 } D cy [.ref h0] (h0, .inr (0, [.null, .null, .int 0])) sz (fun u => bC cy h0 u) 2 (124) := by
  refine nEnter (cc := cX0_init) (maxL := 1) (by decide) rfl rfl (Nat.le_of_ble_eq_true rfl) ?_
  intro p e s m below meth c ls A S hr hlk hin hK hN hO hP hD hS hA hl
  have S : CallFix p m c cX0_init 1 s _ wsX0_init RX0 := S
  have hl : lv_has ls 1 [(0, .ref h0)] := hl
  refine lv_aload_n S.1 S.2.1 dX0_init_0 rfl (lv_at hl 0 rfl) ?_
  refine W.objInit S.1 S.2.1 S.2.2.2.1 (S.2.2.2.2 (.methodLink RX0 3 objectInit) (by decide +kernel)) (S.2.2.2.2 (.instanceMethod objectInit) (by decide +kernel)) (S.2.2.2.2 _ (by decide +kernel)) rfl (by rw [S.2.2.1]; exact hl.1) rfl dX0_init_1 (Nat.le_of_ble_eq_true rfl) (Nat.le_of_ble_eq_true rfl) ?_
  refine W.eq (g2 := F0 m 4 ls []) rfl ?_
  refine lv_aload_n S.1 S.2.1 dX0_init_4 rfl (lv_at hl 0 rfl) ?_
  refine lv_bipush (v := (62 : Int32)) S.1 S.2.1 dX0_init_5 (by decide) ?_
  refine n_newJ (N := 62) S (by decide +kernel) hK hP hD hS hA (by decide) (by decide) (by decide) (show 1 ≤ 2 by omega) (show 0 + 62 ≤ 124 by omega) dX0_init_7 (fun q1 H hP hD hS => ?_)
  have hP : va_P D vwCl ([(h0, .inr (0, [.null, .null, .int 0])), (q1, .inl (cy.2.1, 62, .inr (.inl (fun _ => 0))))]) H := hP
  have hD : va_D A ([(h0, .inr (0, [.null, .null, .int 0])), (q1, .inl (cy.2.1, 62, .inr (.inl (fun _ => 0))))]) := hD
  refine W.widen (k := 1) (n := 0 + 62) (by omega) (by omega) ?_
  refine va_putF (D := D) (ci := 0) (v := .ref q1) (ty := .array .long) (C := RX0) (T := TX0) (N := 3) S.1 S.2.1 S.2.2.2.2 (by decide +kernel) tyX0 tyX0_ok nmX0 S.2.2.2.1 hK hP hD hS 0 rfl rfl 0 (by decide) (S.2.2.2.2 (.fieldLink RX0 11 "PrefixLeader$Cover" "address" "[J") (by decide +kernel)) (fun _ h9 => h9) rfl hin rfl (by decide +kernel) rfl rfl (Nat.le_of_ble_eq_true rfl) dX0_init_9 (fun H locs hP hD hS => ?_)
  have hP : va_P D vwCl ([(h0, .inr (0, [.ref q1, .null, .int 0])), (q1, .inl (cy.2.1, 62, .inr (.inl (fun _ => 0))))]) H := hP
  have hD : va_D A ([(h0, .inr (0, [.ref q1, .null, .int 0])), (q1, .inl (cy.2.1, 62, .inr (.inl (fun _ => 0))))]) := hD
  refine lv_aload_n S.1 S.2.1 dX0_init_12 rfl (lv_at hl 0 rfl) ?_
  refine lv_bipush (v := (62 : Int32)) S.1 S.2.1 dX0_init_13 (by decide) ?_
  refine n_newI (N := 62) S (by decide +kernel) hK hP hD hS hA (by decide) (by decide) (by decide) (show 2 ≤ 2 by omega) (show 0 + 62 + 62 ≤ 124 by omega) dX0_init_15 (fun q2 H hP hD hS => ?_)
  have hP : va_P D vwCl ([(h0, .inr (0, [.ref q1, .null, .int 0])), (q1, .inl (cy.2.1, 62, .inr (.inl (fun _ => 0)))), (q2, .inl (cy.1, 62, .inl (fun _ => 0)))]) H := hP
  have hD : va_D A ([(h0, .inr (0, [.ref q1, .null, .int 0])), (q1, .inl (cy.2.1, 62, .inr (.inl (fun _ => 0)))), (q2, .inl (cy.1, 62, .inl (fun _ => 0)))]) := hD
  refine W.widen (k := 2) (n := 0 + 124) (by omega) (by omega) ?_
  refine va_putF (D := D) (ci := 0) (v := .ref q2) (ty := .array .int) (C := RX0) (T := TX0) (N := 3) S.1 S.2.1 S.2.2.2.2 (by decide +kernel) tyX0 tyX0_ok nmX0 S.2.2.2.1 hK hP hD hS 0 rfl rfl 1 (by decide) (S.2.2.2.2 (.fieldLink RX0 15 "PrefixLeader$Cover" "bits" "[I") (by decide +kernel)) (fun _ h9 => h9) rfl hin rfl (by decide +kernel) rfl rfl (Nat.le_of_ble_eq_true rfl) dX0_init_17 (fun H locs hP hD hS => ?_)
  have hP : va_P D vwCl ([(h0, .inr (0, [.ref q1, .ref q2, .int 0])), (q1, .inl (cy.2.1, 62, .inr (.inl (fun _ => 0)))), (q2, .inl (cy.1, 62, .inl (fun _ => 0)))]) H := hP
  have hD : va_D A ([(h0, .inr (0, [.ref q1, .ref q2, .int 0])), (q1, .inl (cy.2.1, 62, .inr (.inl (fun _ => 0)))), (q2, .inl (cy.1, 62, .inl (fun _ => 0)))]) := hD
  refine W.widen (k := 2) (n := 124) (by omega) (by omega) ?_
  exact W.vret S.1 S.2.1 hr (fun t ht hW => ⟨⟨(fun k => ([h0, q1, q2] : List Nat).getD k 0), rfl, rfl, by rw [ht]; exact hP, hD⟩, hS.F ht⟩) hS.2.2 dX0_init_20 hlk
set_option maxHeartbeats 4000000 in
set_option maxRecDepth 100000 in
theorem n_X6_init (l : Launch) (D : va_G) (cy : gCy) (h0 sz : Nat) : nMet l yX6_init wsX6_init { frames := 2, cells := 13, slots := 624, locals := 50 } D cy [.ref h0] (h0, .inr (5, [.null, .null, .null, .null, .int 0])) sz (fun u => bW cy h0 u) 13 (624) := by
  refine nEnter (cc := cX6_init) (maxL := 1) (by decide) rfl rfl (Nat.le_of_ble_eq_true rfl) ?_
  intro p e s m below meth c ls A S hr hlk hin hK hN hO hP hD hS hA hl
  have S : CallFix p m c cX6_init 1 s _ wsX6_init RX6 := S
  have hl : lv_has ls 1 [(0, .ref h0)] := hl
  refine lv_aload_n S.1 S.2.1 dX6_init_0 rfl (lv_at hl 0 rfl) ?_
  refine W.objInit S.1 S.2.1 S.2.2.2.1 (S.2.2.2.2 (.methodLink RX6 3 objectInit) (by decide +kernel)) (S.2.2.2.2 (.instanceMethod objectInit) (by decide +kernel)) (S.2.2.2.2 _ (by decide +kernel)) rfl (by rw [S.2.2.1]; exact hl.1) rfl dX6_init_1 (Nat.le_of_ble_eq_true rfl) (Nat.le_of_ble_eq_true rfl) ?_
  refine W.eq (g2 := F0 m 4 ls []) rfl ?_
  refine lv_aload_n S.1 S.2.1 dX6_init_4 rfl (lv_at hl 0 rfl) ?_
  refine va_new (ci := 2) (fs := [.null, .null, .null, .int 0, .int 0]) (C := RX2) (T := TX2) (N := 5) S.1 S.2.1 S.2.2.2.2 (by decide +kernel) tyX2 tyX2_ok S.2.2.2.1 (S.2.2.2.2 (.classLink RX6 9 RX2) (by decide +kernel)) (S.2.2.2.2 (.instantiable RX2 5) (by decide +kernel)) (S.2.2.2.2 (.initialized RX2) (by decide +kernel)) hK hP hD hS hA rfl (fun j hj => by rcases (show j = 0 ∨ j = 1 ∨ j = 2 ∨ j = 3 ∨ j = 4 by omega) with rfl | rfl | rfl | rfl | rfl <;> rfl) (show 1 ≤ 13 by omega) (show 0 + 5 ≤ 624 by omega) dX6_init_5 (fun q1 H hP hD hS => ?_)
  refine W.widen (k := 1) (n := 0 + 5) (by omega) (by omega) ?_
  refine lv_dup S.1 S.2.1 dX6_init_8 rfl ?_
  refine lv_bipush (v := (64 : Int32)) S.1 S.2.1 dX6_init_9 (by decide) ?_
  refine nBehind hP hD hS hA (nRunI (As := [.int (nI 64)]) (rest := [.ref q1, .ref h0]) (wr := ([(h0, .inr (5, [.null, .null, .null, .null, .int 0]))])) 1 S hK hN hO hP (n_X2_init l D cy q1 H.size 64 (by decide)) gX6_init_X2_init rfl rfl rfl (by decide +kernel) (by decide +kernel) (by decide +kernel) rfl (by decide +kernel) ⟨Nat.le_of_ble_eq_true rfl, Nat.le_of_ble_eq_true rfl⟩ rfl hl.1 rfl (Nat.le_of_ble_eq_true rfl) dX6_init_11 ⟨show 1 + 3 ≤ 13 by omega, show 0 + 5 + 192 ≤ 624 by omega⟩) (fun u2 H locs hu hP hD hS => ?_)
  have hP : va_P D vwCl ([(h0, .inr (5, [.null, .null, .null, .null, .int 0]))] ++ bL cy q1 u2 64) H := hP
  have hD : va_D A ([(h0, .inr (5, [.null, .null, .null, .null, .int 0]))] ++ bL cy q1 u2 64) := hD
  refine W.widen (k := 4) (n := 0 + 197) (by omega) (by omega) ?_
  refine va_putF (D := D) (ci := 5) (v := .ref q1) (ty := .object "PrefixLeader$Lines") (C := RX6) (T := TX6) (N := 5) S.1 S.2.1 S.2.2.2.2 (by decide +kernel) tyX6 tyX6_ok nmX6 S.2.2.2.1 hK hP hD hS 0 rfl rfl 0 (by decide) (S.2.2.2.2 (.fieldLink RX6 14 "PrefixLeader$Way" "start" "LPrefixLeader$Lines;") (by decide +kernel)) (fun _ h9 => h9) rfl hin rfl (by decide +kernel) rfl rfl (Nat.le_of_ble_eq_true rfl) dX6_init_14 (fun H locs hP hD hS => ?_)
  have hP : va_P D vwCl ([(h0, .inr (5, [.ref q1, .null, .null, .null, .int 0]))] ++ bL cy q1 u2 64) H := hP
  have hD : va_D A ([(h0, .inr (5, [.ref q1, .null, .null, .null, .int 0]))] ++ bL cy q1 u2 64) := hD
  refine lv_aload_n S.1 S.2.1 dX6_init_17 rfl (lv_at hl 0 rfl) ?_
  refine va_new (ci := 2) (fs := [.null, .null, .null, .int 0, .int 0]) (C := RX2) (T := TX2) (N := 5) S.1 S.2.1 S.2.2.2.2 (by decide +kernel) tyX2 tyX2_ok S.2.2.2.1 (S.2.2.2.2 (.classLink RX6 9 RX2) (by decide +kernel)) (S.2.2.2.2 (.instantiable RX2 5) (by decide +kernel)) (S.2.2.2.2 (.initialized RX2) (by decide +kernel)) hK hP hD hS hA rfl (fun j hj => by rcases (show j = 0 ∨ j = 1 ∨ j = 2 ∨ j = 3 ∨ j = 4 by omega) with rfl | rfl | rfl | rfl | rfl <;> rfl) (show 5 ≤ 13 by omega) (show 0 + 202 ≤ 624 by omega) dX6_init_18 (fun q3 H hP hD hS => ?_)
  refine W.widen (k := 5) (n := 0 + 202) (by omega) (by omega) ?_
  refine lv_dup S.1 S.2.1 dX6_init_21 rfl ?_
  refine lv_bipush (v := (64 : Int32)) S.1 S.2.1 dX6_init_22 (by decide) ?_
  refine nBehind hP hD hS hA (nRunI (As := [.int (nI 64)]) (rest := [.ref q3, .ref h0]) (wr := ([(h0, .inr (5, [.ref q1, .null, .null, .null, .int 0]))] ++ bL cy q1 u2 64)) 1 S hK hN hO hP (n_X2_init l D cy q3 H.size 64 (by decide)) gX6_init_X2_init rfl rfl rfl (by decide +kernel) (by decide +kernel) (by decide +kernel) rfl (by decide +kernel) ⟨Nat.le_of_ble_eq_true rfl, Nat.le_of_ble_eq_true rfl⟩ rfl hl.1 rfl (Nat.le_of_ble_eq_true rfl) dX6_init_24 ⟨show 5 + 3 ≤ 13 by omega, show 0 + 202 + 192 ≤ 624 by omega⟩) (fun u4 H locs hu hP hD hS => ?_)
  have hP : va_P D vwCl ([(h0, .inr (5, [.ref q1, .null, .null, .null, .int 0]))] ++ bL cy q1 u2 64 ++ bL cy q3 u4 64) H := hP
  have hD : va_D A ([(h0, .inr (5, [.ref q1, .null, .null, .null, .int 0]))] ++ bL cy q1 u2 64 ++ bL cy q3 u4 64) := hD
  refine W.widen (k := 8) (n := 0 + 394) (by omega) (by omega) ?_
  refine va_putF (D := D) (ci := 5) (v := .ref q3) (ty := .object "PrefixLeader$Lines") (C := RX6) (T := TX6) (N := 5) S.1 S.2.1 S.2.2.2.2 (by decide +kernel) tyX6 tyX6_ok nmX6 S.2.2.2.1 hK hP hD hS 0 rfl rfl 1 (by decide) (S.2.2.2.2 (.fieldLink RX6 20 "PrefixLeader$Way" "puts" "LPrefixLeader$Lines;") (by decide +kernel)) (fun _ h9 => h9) rfl hin rfl (by decide +kernel) rfl rfl (Nat.le_of_ble_eq_true rfl) dX6_init_27 (fun H locs hP hD hS => ?_)
  have hP : va_P D vwCl ([(h0, .inr (5, [.ref q1, .ref q3, .null, .null, .int 0]))] ++ bL cy q1 u2 64 ++ bL cy q3 u4 64) H := hP
  have hD : va_D A ([(h0, .inr (5, [.ref q1, .ref q3, .null, .null, .int 0]))] ++ bL cy q1 u2 64 ++ bL cy q3 u4 64) := hD
  refine lv_aload_n S.1 S.2.1 dX6_init_30 rfl (lv_at hl 0 rfl) ?_
  refine va_new (ci := 2) (fs := [.null, .null, .null, .int 0, .int 0]) (C := RX2) (T := TX2) (N := 5) S.1 S.2.1 S.2.2.2.2 (by decide +kernel) tyX2 tyX2_ok S.2.2.2.1 (S.2.2.2.2 (.classLink RX6 9 RX2) (by decide +kernel)) (S.2.2.2.2 (.instantiable RX2 5) (by decide +kernel)) (S.2.2.2.2 (.initialized RX2) (by decide +kernel)) hK hP hD hS hA rfl (fun j hj => by rcases (show j = 0 ∨ j = 1 ∨ j = 2 ∨ j = 3 ∨ j = 4 by omega) with rfl | rfl | rfl | rfl | rfl <;> rfl) (show 9 ≤ 13 by omega) (show 0 + 399 ≤ 624 by omega) dX6_init_31 (fun q5 H hP hD hS => ?_)
  refine W.widen (k := 9) (n := 0 + 399) (by omega) (by omega) ?_
  refine lv_dup S.1 S.2.1 dX6_init_34 rfl ?_
  refine lv_bipush (v := (64 : Int32)) S.1 S.2.1 dX6_init_35 (by decide) ?_
  refine nBehind hP hD hS hA (nRunI (As := [.int (nI 64)]) (rest := [.ref q5, .ref h0]) (wr := ([(h0, .inr (5, [.ref q1, .ref q3, .null, .null, .int 0]))] ++ bL cy q1 u2 64 ++ bL cy q3 u4 64)) 1 S hK hN hO hP (n_X2_init l D cy q5 H.size 64 (by decide)) gX6_init_X2_init rfl rfl rfl (by decide +kernel) (by decide +kernel) (by decide +kernel) rfl (by decide +kernel) ⟨Nat.le_of_ble_eq_true rfl, Nat.le_of_ble_eq_true rfl⟩ rfl hl.1 rfl (Nat.le_of_ble_eq_true rfl) dX6_init_37 ⟨show 9 + 3 ≤ 13 by omega, show 0 + 399 + 192 ≤ 624 by omega⟩) (fun u6 H locs hu hP hD hS => ?_)
  have hP : va_P D vwCl ([(h0, .inr (5, [.ref q1, .ref q3, .null, .null, .int 0]))] ++ bL cy q1 u2 64 ++ bL cy q3 u4 64 ++ bL cy q5 u6 64) H := hP
  have hD : va_D A ([(h0, .inr (5, [.ref q1, .ref q3, .null, .null, .int 0]))] ++ bL cy q1 u2 64 ++ bL cy q3 u4 64 ++ bL cy q5 u6 64) := hD
  refine W.widen (k := 12) (n := 0 + 591) (by omega) (by omega) ?_
  refine va_putF (D := D) (ci := 5) (v := .ref q5) (ty := .object "PrefixLeader$Lines") (C := RX6) (T := TX6) (N := 5) S.1 S.2.1 S.2.2.2.2 (by decide +kernel) tyX6 tyX6_ok nmX6 S.2.2.2.1 hK hP hD hS 0 rfl rfl 2 (by decide) (S.2.2.2.2 (.fieldLink RX6 23 "PrefixLeader$Way" "drops" "LPrefixLeader$Lines;") (by decide +kernel)) (fun _ h9 => h9) rfl hin rfl (by decide +kernel) rfl rfl (Nat.le_of_ble_eq_true rfl) dX6_init_40 (fun H locs hP hD hS => ?_)
  have hP : va_P D vwCl ([(h0, .inr (5, [.ref q1, .ref q3, .ref q5, .null, .int 0]))] ++ bL cy q1 u2 64 ++ bL cy q3 u4 64 ++ bL cy q5 u6 64) H := hP
  have hD : va_D A ([(h0, .inr (5, [.ref q1, .ref q3, .ref q5, .null, .int 0]))] ++ bL cy q1 u2 64 ++ bL cy q3 u4 64 ++ bL cy q5 u6 64) := hD
  refine lv_aload_n S.1 S.2.1 dX6_init_43 rfl (lv_at hl 0 rfl) ?_
  refine lv_bipush (v := (33 : Int32)) S.1 S.2.1 dX6_init_44 (by decide) ?_
  refine n_newI (N := 33) S (by decide +kernel) hK hP hD hS hA (by decide) (by decide) (by decide) (show 13 ≤ 13 by omega) (show 0 + 591 + 33 ≤ 624 by omega) dX6_init_46 (fun q7 H hP hD hS => ?_)
  have hP : va_P D vwCl ([(h0, .inr (5, [.ref q1, .ref q3, .ref q5, .null, .int 0]))] ++ bL cy q1 u2 64 ++ bL cy q3 u4 64 ++ bL cy q5 u6 64 ++ [(q7, .inl (cy.1, 33, .inl (fun _ => 0)))]) H := hP
  have hD : va_D A ([(h0, .inr (5, [.ref q1, .ref q3, .ref q5, .null, .int 0]))] ++ bL cy q1 u2 64 ++ bL cy q3 u4 64 ++ bL cy q5 u6 64 ++ [(q7, .inl (cy.1, 33, .inl (fun _ => 0)))]) := hD
  refine W.widen (k := 13) (n := 0 + 624) (by omega) (by omega) ?_
  refine va_putF (D := D) (ci := 5) (v := .ref q7) (ty := .array .int) (C := RX6) (T := TX6) (N := 5) S.1 S.2.1 S.2.2.2.2 (by decide +kernel) tyX6 tyX6_ok nmX6 S.2.2.2.1 hK hP hD hS 0 rfl rfl 3 (by decide) (S.2.2.2.2 (.fieldLink RX6 26 "PrefixLeader$Way" "goalByBits" "[I") (by decide +kernel)) (fun _ h9 => h9) rfl hin rfl (by decide +kernel) rfl rfl (Nat.le_of_ble_eq_true rfl) dX6_init_48 (fun H locs hP hD hS => ?_)
  have hP : va_P D vwCl ([(h0, .inr (5, [.ref q1, .ref q3, .ref q5, .ref q7, .int 0]))] ++ bL cy q1 u2 64 ++ bL cy q3 u4 64 ++ bL cy q5 u6 64 ++ [(q7, .inl (cy.1, 33, .inl (fun _ => 0)))]) H := hP
  have hD : va_D A ([(h0, .inr (5, [.ref q1, .ref q3, .ref q5, .ref q7, .int 0]))] ++ bL cy q1 u2 64 ++ bL cy q3 u4 64 ++ bL cy q5 u6 64 ++ [(q7, .inl (cy.1, 33, .inl (fun _ => 0)))]) := hD
  refine lv_aload_n S.1 S.2.1 dX6_init_51 rfl (lv_at hl 0 rfl) ?_
  refine lv_iconst (v := (-1 : Int32)) S.1 S.2.1 dX6_init_52 (by decide) ?_
  refine va_put (D := D) (ci := 5) (v := .int (-1 : Int32)) (ty := .int) (C := RX6) (T := TX6) (N := 5) S.1 S.2.1 S.2.2.2.2 (by decide +kernel) tyX6 tyX6_ok nmX6 S.2.2.2.1 hK hP hD hS 0 rfl rfl 4 (by decide) (S.2.2.2.2 (.fieldLink RX6 30 "PrefixLeader$Way" "size" "I") (by decide +kernel)) (fun _ h9 => h9) rfl (by decide +kernel) rfl rfl (Nat.le_of_ble_eq_true rfl) dX6_init_53 (fun H locs hP hD hS => ?_)
  have hP : va_P D vwCl ([(h0, .inr (5, [.ref q1, .ref q3, .ref q5, .ref q7, .int (-1 : Int32)]))] ++ bL cy q1 u2 64 ++ bL cy q3 u4 64 ++ bL cy q5 u6 64 ++ [(q7, .inl (cy.1, 33, .inl (fun _ => 0)))]) H := hP
  have hD : va_D A ([(h0, .inr (5, [.ref q1, .ref q3, .ref q5, .ref q7, .int (-1 : Int32)]))] ++ bL cy q1 u2 64 ++ bL cy q3 u4 64 ++ bL cy q5 u6 64 ++ [(q7, .inl (cy.1, 33, .inl (fun _ => 0)))]) := hD
  refine W.widen (k := 13) (n := 624) (by omega) (by omega) ?_
  exact W.vret S.1 S.2.1 hr (fun t ht hW => ⟨⟨(fun k => ([h0, q1, (u2 1), (u2 2), (u2 3), q3, (u4 1), (u4 2), (u4 3), q5, (u6 1), (u6 2), (u6 3), q7] : List Nat).getD k 0), rfl, rfl, by rw [ht]; exact hP, hD⟩, hS.F ht⟩) hS.2.2 dX6_init_56 hlk
