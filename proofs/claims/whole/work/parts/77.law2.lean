set_option maxHeartbeats 4000000 in
set_option maxRecDepth 100000 in
theorem law_c11 {p : Program} {l : Launch} {e : Env} {s : State} {m : MethodId} {below : List Frame} {meth : Method} {c : Code} {D : va_G} {cy : gCy} {aC aR : Nat → Nat} {b L cells slots i : Nat} {xs : Nat → Int32} {MC MR : gMem} {H : Heap} {locs : List Loc} {ls : Array Slot} {Q : State → Prop} (S : CallFix p m c cL_law 4 s #[Value.ref b] wsL_law RL) (hX : va_X b L xs s s.heap) (hbl : b < s.heap.size) (hL : L ≤ 2560) (hf : cells + 0 ≤ room_1.cells ∧ slots + 0 ≤ room_1.slots) (hi : i + 5 ≤ L) (C : lwI D cy aC aR s MC MR H locs) (h : Inv MC MR) (hl : lv_has ls 4 [(0, .ref b), (1, .ref (aC 0)), (2, .ref (aR 0)), (3, .int (nI i))])
    (kk : ∀ (MC1 MR1 : gMem) (H1 : Heap) (locs1 : List Loc), lwI D cy aC aR s MC1 MR1 H1 locs1 → Inv MC1 MR1 → W p l e room_1 s m #[Value.ref b] below meth c H1 locs1 cells slots Q (F0 m 939 ls [])) : W p l e room_1 s m #[Value.ref b] below meth c H locs cells slots Q (F0 m 541 ls []) := by
  obtain ⟨r, MC', MR', e1, e2, h'⟩ := op_share h (xs (i + 1)) (xs (i + 2))
  refine lv_aload_n S.1 S.2.1 dL_law_541 rfl (lv_at hl 1 rfl) ?_
  refine lArg 1 S hX hbl hL C.S hl (by omega) (by decide) dL_law_542 dL_law_543 dL_law_544 dL_law_545 dL_law_546 ?_
  refine lArg 2 S hX hbl hL C.S hl (by omega) (by decide) dL_law_547 dL_law_548 dL_law_549 dL_law_550 dL_law_551 ?_
  refine lC_lC C (lRV (k := 0) (ci := 6) (r := (RX7, TX7, 9)) (As := [.int (xs (i + 1)), .int (xs (i + 2))]) (rest := []) 2 S C.1 C.2.1 C.2.2.1 C.2.2.2.2.1 (c_X7_share l D cy aC MC _ _ (r, MC') e1) gL_law_X7_share rfl (by decide +kernel) (by decide) shC_0 rfl rfl rfl hl.1 rfl (Nat.le_of_ble_eq_true rfl) dL_law_552 hf) (fun H locs C => ?_)
  refine lv_aload_n S.1 S.2.1 dL_law_555 rfl (lv_at hl 2 rfl) ?_
  refine lArg 1 S hX hbl hL C.S hl (by omega) (by decide) dL_law_556 dL_law_557 dL_law_558 dL_law_559 dL_law_560 ?_
  refine lArg 2 S hX hbl hL C.S hl (by omega) (by decide) dL_law_561 dL_law_562 dL_law_563 dL_law_564 dL_law_565 ?_
  refine lC_lR C (lRV (k := 0) (ci := 7) (r := (RX8, TX8, 34)) (As := [.int (xs (i + 1)), .int (xs (i + 2))]) (rest := [.long r]) 2 S C.1 C.2.1 C.2.2.2.1 C.2.2.2.2.2.1 (c_X8_share l D cy aR MR _ _ (r, MR') e2) gL_law_X8_share rfl (by decide +kernel) (by decide) shR_0 rfl rfl rfl hl.1 rfl (Nat.le_of_ble_eq_true rfl) dL_law_566 hf) (fun H locs C => ?_)
  refine W.lcmp S.1 S.2.1 dL_law_569 ?_
  exact lv_if_eq (tgt := 939) S.1 S.2.1 dL_law_570 (by decide) (fun _ => kk MC' MR' H locs C h') (fun cq => absurd (cmp_eq.mpr rfl) cq)
set_option maxHeartbeats 4000000 in
set_option maxRecDepth 100000 in
theorem law_c12 {p : Program} {l : Launch} {e : Env} {s : State} {m : MethodId} {below : List Frame} {meth : Method} {c : Code} {D : va_G} {cy : gCy} {aC aR : Nat → Nat} {b L cells slots i : Nat} {xs : Nat → Int32} {MC MR : gMem} {H : Heap} {locs : List Loc} {ls : Array Slot} {Q : State → Prop} (S : CallFix p m c cL_law 4 s #[Value.ref b] wsL_law RL) (hX : va_X b L xs s s.heap) (hbl : b < s.heap.size) (hL : L ≤ 2560) (hf : cells + 0 ≤ room_1.cells ∧ slots + 0 ≤ room_1.slots) (hi : i + 5 ≤ L) (C : lwI D cy aC aR s MC MR H locs) (h : Inv MC MR) (hl : lv_has ls 4 [(0, .ref b), (1, .ref (aC 0)), (2, .ref (aR 0)), (3, .int (nI i))])
    (kk : ∀ (MC1 MR1 : gMem) (H1 : Heap) (locs1 : List Loc), lwI D cy aC aR s MC1 MR1 H1 locs1 → Inv MC1 MR1 → W p l e room_1 s m #[Value.ref b] below meth c H1 locs1 cells slots Q (F0 m 939 ls [])) : W p l e room_1 s m #[Value.ref b] below meth c H locs cells slots Q (F0 m 575 ls []) := by
  obtain ⟨r, MC', MR', e1, e2, h'⟩ := op_same h (xs (i + 1)) (xs (i + 2))
  refine lv_aload_n S.1 S.2.1 dL_law_575 rfl (lv_at hl 1 rfl) ?_
  refine lArg 1 S hX hbl hL C.S hl (by omega) (by decide) dL_law_576 dL_law_577 dL_law_578 dL_law_579 dL_law_580 ?_
  refine lArg 2 S hX hbl hL C.S hl (by omega) (by decide) dL_law_581 dL_law_582 dL_law_583 dL_law_584 dL_law_585 ?_
  refine lC_iC C (lRV (k := 0) (ci := 6) (r := (RX7, TX7, 9)) (As := [.int (xs (i + 1)), .int (xs (i + 2))]) (rest := []) 2 S C.1 C.2.1 C.2.2.1 C.2.2.2.2.1 (c_X7_same l D cy aC MC _ _ (r, MC') e1) gL_law_X7_same rfl (by decide +kernel) (by decide) shC_0 rfl rfl rfl hl.1 rfl (Nat.le_of_ble_eq_true rfl) dL_law_586 hf) (fun H locs C => ?_)
  refine lv_aload_n S.1 S.2.1 dL_law_589 rfl (lv_at hl 2 rfl) ?_
  refine lArg 1 S hX hbl hL C.S hl (by omega) (by decide) dL_law_590 dL_law_591 dL_law_592 dL_law_593 dL_law_594 ?_
  refine lArg 2 S hX hbl hL C.S hl (by omega) (by decide) dL_law_595 dL_law_596 dL_law_597 dL_law_598 dL_law_599 ?_
  refine lC_iR C (lRV (k := 0) (ci := 7) (r := (RX8, TX8, 34)) (As := [.int (xs (i + 1)), .int (xs (i + 2))]) (rest := [.int r]) 2 S C.1 C.2.1 C.2.2.2.1 C.2.2.2.2.2.1 (c_X8_same l D cy aR MR _ _ (r, MR') e2) gL_law_X8_same rfl (by decide +kernel) (by decide) shR_0 rfl rfl rfl hl.1 rfl (Nat.le_of_ble_eq_true rfl) dL_law_600 hf) (fun H locs C => ?_)
  exact lv_icmp_eq (tgt := 939) S.1 S.2.1 dL_law_603 (by decide) (fun _ => kk MC' MR' H locs C h') (fun cq => absurd rfl cq)
set_option maxHeartbeats 4000000 in
set_option maxRecDepth 100000 in
theorem law_c13 {p : Program} {l : Launch} {e : Env} {s : State} {m : MethodId} {below : List Frame} {meth : Method} {c : Code} {D : va_G} {cy : gCy} {aC aR : Nat → Nat} {b L cells slots i : Nat} {xs : Nat → Int32} {MC MR : gMem} {H : Heap} {locs : List Loc} {ls : Array Slot} {Q : State → Prop} (S : CallFix p m c cL_law 4 s #[Value.ref b] wsL_law RL) (hX : va_X b L xs s s.heap) (hbl : b < s.heap.size) (hL : L ≤ 2560) (hf : cells + 0 ≤ room_1.cells ∧ slots + 0 ≤ room_1.slots) (hi : i + 5 ≤ L) (C : lwI D cy aC aR s MC MR H locs) (h : Inv MC MR) (hl : lv_has ls 4 [(0, .ref b), (1, .ref (aC 0)), (2, .ref (aR 0)), (3, .int (nI i))])
    (kk : ∀ (MC1 MR1 : gMem) (H1 : Heap) (locs1 : List Loc), lwI D cy aC aR s MC1 MR1 H1 locs1 → Inv MC1 MR1 → W p l e room_1 s m #[Value.ref b] below meth c H1 locs1 cells slots Q (F0 m 939 ls [])) : W p l e room_1 s m #[Value.ref b] below meth c H locs cells slots Q (F0 m 608 ls []) := by
  obtain ⟨r, MC', MR', e1, e2, h'⟩ := op_differ h (xs (i + 1)) (xs (i + 2)) (xs (i + 3))
  refine lv_aload_n S.1 S.2.1 dL_law_608 rfl (lv_at hl 1 rfl) ?_
  refine lArg 1 S hX hbl hL C.S hl (by omega) (by decide) dL_law_609 dL_law_610 dL_law_611 dL_law_612 dL_law_613 ?_
  refine lArg 2 S hX hbl hL C.S hl (by omega) (by decide) dL_law_614 dL_law_615 dL_law_616 dL_law_617 dL_law_618 ?_
  refine lArg 3 S hX hbl hL C.S hl (by omega) (by decide) dL_law_619 dL_law_620 dL_law_621 dL_law_622 dL_law_623 ?_
  refine lC_lC C (lRV (k := 0) (ci := 6) (r := (RX7, TX7, 9)) (As := [.int (xs (i + 1)), .int (xs (i + 2)), .int (xs (i + 3))]) (rest := []) 3 S C.1 C.2.1 C.2.2.1 C.2.2.2.2.1 (c_X7_differ l D cy aC MC _ _ _ (r, MC') e1) gL_law_X7_differ rfl (by decide +kernel) (by decide) shC_0 rfl rfl rfl hl.1 rfl (Nat.le_of_ble_eq_true rfl) dL_law_624 hf) (fun H locs C => ?_)
  refine lv_aload_n S.1 S.2.1 dL_law_627 rfl (lv_at hl 2 rfl) ?_
  refine lArg 1 S hX hbl hL C.S hl (by omega) (by decide) dL_law_628 dL_law_629 dL_law_630 dL_law_631 dL_law_632 ?_
  refine lArg 2 S hX hbl hL C.S hl (by omega) (by decide) dL_law_633 dL_law_634 dL_law_635 dL_law_636 dL_law_637 ?_
  refine lArg 3 S hX hbl hL C.S hl (by omega) (by decide) dL_law_638 dL_law_639 dL_law_640 dL_law_641 dL_law_642 ?_
  refine lC_lR C (lRV (k := 0) (ci := 7) (r := (RX8, TX8, 34)) (As := [.int (xs (i + 1)), .int (xs (i + 2)), .int (xs (i + 3))]) (rest := [.long r]) 3 S C.1 C.2.1 C.2.2.2.1 C.2.2.2.2.2.1 (c_X8_differ l D cy aR MR _ _ _ (r, MR') e2) gL_law_X8_differ rfl (by decide +kernel) (by decide) shR_0 rfl rfl rfl hl.1 rfl (Nat.le_of_ble_eq_true rfl) dL_law_643 hf) (fun H locs C => ?_)
  refine W.lcmp S.1 S.2.1 dL_law_646 ?_
  exact lv_if_eq (tgt := 939) S.1 S.2.1 dL_law_647 (by decide) (fun _ => kk MC' MR' H locs C h') (fun cq => absurd (cmp_eq.mpr rfl) cq)
set_option maxHeartbeats 4000000 in
set_option maxRecDepth 100000 in
theorem law_c14 {p : Program} {l : Launch} {e : Env} {s : State} {m : MethodId} {below : List Frame} {meth : Method} {c : Code} {D : va_G} {cy : gCy} {aC aR : Nat → Nat} {b L cells slots i : Nat} {xs : Nat → Int32} {MC MR : gMem} {H : Heap} {locs : List Loc} {ls : Array Slot} {Q : State → Prop} (S : CallFix p m c cL_law 4 s #[Value.ref b] wsL_law RL) (hX : va_X b L xs s s.heap) (hbl : b < s.heap.size) (hL : L ≤ 2560) (hf : cells + 0 ≤ room_1.cells ∧ slots + 0 ≤ room_1.slots) (hi : i + 5 ≤ L) (C : lwI D cy aC aR s MC MR H locs) (h : Inv MC MR) (hl : lv_has ls 4 [(0, .ref b), (1, .ref (aC 0)), (2, .ref (aR 0)), (3, .int (nI i))])
    (kk : ∀ (MC1 MR1 : gMem) (H1 : Heap) (locs1 : List Loc), lwI D cy aC aR s MC1 MR1 H1 locs1 → Inv MC1 MR1 → W p l e room_1 s m #[Value.ref b] below meth c H1 locs1 cells slots Q (F0 m 939 ls [])) : W p l e room_1 s m #[Value.ref b] below meth c H locs cells slots Q (F0 m 652 ls []) := by
  obtain ⟨r, MC', MR', e1, e2, h'⟩ := op_combine h (xs (i + 1)) (xs (i + 2)) (xs (i + 3)) (xs (i + 4))
  refine lv_aload_n S.1 S.2.1 dL_law_652 rfl (lv_at hl 1 rfl) ?_
  refine lArg 1 S hX hbl hL C.S hl (by omega) (by decide) dL_law_653 dL_law_654 dL_law_655 dL_law_656 dL_law_657 ?_
  refine lArg 2 S hX hbl hL C.S hl (by omega) (by decide) dL_law_658 dL_law_659 dL_law_660 dL_law_661 dL_law_662 ?_
  refine lArg 3 S hX hbl hL C.S hl (by omega) (by decide) dL_law_663 dL_law_664 dL_law_665 dL_law_666 dL_law_667 ?_
  refine lArg 4 S hX hbl hL C.S hl (by omega) (by decide) dL_law_668 dL_law_669 dL_law_670 dL_law_671 dL_law_672 ?_
  refine lC_iC C (lRV (k := 0) (ci := 6) (r := (RX7, TX7, 9)) (As := [.int (xs (i + 1)), .int (xs (i + 2)), .int (xs (i + 3)), .int (xs (i + 4))]) (rest := []) 4 S C.1 C.2.1 C.2.2.1 C.2.2.2.2.1 (c_X7_combine l D cy aC MC _ _ _ _ (r, MC') e1) gL_law_X7_combine rfl (by decide +kernel) (by decide) shC_0 rfl rfl rfl hl.1 rfl (Nat.le_of_ble_eq_true rfl) dL_law_673 hf) (fun H locs C => ?_)
  refine lv_aload_n S.1 S.2.1 dL_law_676 rfl (lv_at hl 2 rfl) ?_
  refine lArg 1 S hX hbl hL C.S hl (by omega) (by decide) dL_law_677 dL_law_678 dL_law_679 dL_law_680 dL_law_681 ?_
  refine lArg 2 S hX hbl hL C.S hl (by omega) (by decide) dL_law_682 dL_law_683 dL_law_684 dL_law_685 dL_law_686 ?_
  refine lArg 3 S hX hbl hL C.S hl (by omega) (by decide) dL_law_687 dL_law_688 dL_law_689 dL_law_690 dL_law_691 ?_
  refine lArg 4 S hX hbl hL C.S hl (by omega) (by decide) dL_law_692 dL_law_693 dL_law_694 dL_law_695 dL_law_696 ?_
  refine lC_iR C (lRV (k := 0) (ci := 7) (r := (RX8, TX8, 34)) (As := [.int (xs (i + 1)), .int (xs (i + 2)), .int (xs (i + 3)), .int (xs (i + 4))]) (rest := [.int r]) 4 S C.1 C.2.1 C.2.2.2.1 C.2.2.2.2.2.1 (c_X8_combine l D cy aR MR _ _ _ _ (r, MR') e2) gL_law_X8_combine rfl (by decide +kernel) (by decide) shR_0 rfl rfl rfl hl.1 rfl (Nat.le_of_ble_eq_true rfl) dL_law_697 hf) (fun H locs C => ?_)
  exact lv_icmp_eq (tgt := 939) S.1 S.2.1 dL_law_700 (by decide) (fun _ => kk MC' MR' H locs C h') (fun cq => absurd rfl cq)
set_option maxHeartbeats 4000000 in
set_option maxRecDepth 100000 in
theorem law_c15 {p : Program} {l : Launch} {e : Env} {s : State} {m : MethodId} {below : List Frame} {meth : Method} {c : Code} {D : va_G} {cy : gCy} {aC aR : Nat → Nat} {b L cells slots i : Nat} {xs : Nat → Int32} {MC MR : gMem} {H : Heap} {locs : List Loc} {ls : Array Slot} {Q : State → Prop} (S : CallFix p m c cL_law 4 s #[Value.ref b] wsL_law RL) (hX : va_X b L xs s s.heap) (hbl : b < s.heap.size) (hL : L ≤ 2560) (hf : cells + 0 ≤ room_1.cells ∧ slots + 0 ≤ room_1.slots) (hi : i + 5 ≤ L) (C : lwI D cy aC aR s MC MR H locs) (h : Inv MC MR) (hl : lv_has ls 4 [(0, .ref b), (1, .ref (aC 0)), (2, .ref (aR 0)), (3, .int (nI i))])
    (kk : ∀ (MC1 MR1 : gMem) (H1 : Heap) (locs1 : List Loc), lwI D cy aC aR s MC1 MR1 H1 locs1 → Inv MC1 MR1 → W p l e room_1 s m #[Value.ref b] below meth c H1 locs1 cells slots Q (F0 m 939 ls [])) : W p l e room_1 s m #[Value.ref b] below meth c H locs cells slots Q (F0 m 705 ls []) := by
  obtain ⟨r, MC', MR', e1, e2, h'⟩ := op_cover h (xs (i + 1)) (xs (i + 2))
  refine lv_aload_n S.1 S.2.1 dL_law_705 rfl (lv_at hl 1 rfl) ?_
  refine lArg 1 S hX hbl hL C.S hl (by omega) (by decide) dL_law_706 dL_law_707 dL_law_708 dL_law_709 dL_law_710 ?_
  refine lArg 2 S hX hbl hL C.S hl (by omega) (by decide) dL_law_711 dL_law_712 dL_law_713 dL_law_714 dL_law_715 ?_
  refine lC_iC C (lRV (k := 0) (ci := 6) (r := (RX7, TX7, 9)) (As := [.int (xs (i + 1)), .int (xs (i + 2))]) (rest := []) 2 S C.1 C.2.1 C.2.2.1 C.2.2.2.2.1 (c_X7_cover l D cy aC MC _ _ (r, MC') e1) gL_law_X7_cover rfl (by decide +kernel) (by decide) shC_0 rfl rfl rfl hl.1 rfl (Nat.le_of_ble_eq_true rfl) dL_law_716 hf) (fun H locs C => ?_)
  refine lv_aload_n S.1 S.2.1 dL_law_719 rfl (lv_at hl 2 rfl) ?_
  refine lArg 1 S hX hbl hL C.S hl (by omega) (by decide) dL_law_720 dL_law_721 dL_law_722 dL_law_723 dL_law_724 ?_
  refine lArg 2 S hX hbl hL C.S hl (by omega) (by decide) dL_law_725 dL_law_726 dL_law_727 dL_law_728 dL_law_729 ?_
  refine lC_iR C (lRV (k := 0) (ci := 7) (r := (RX8, TX8, 34)) (As := [.int (xs (i + 1)), .int (xs (i + 2))]) (rest := [.int r]) 2 S C.1 C.2.1 C.2.2.2.1 C.2.2.2.2.2.1 (c_X8_cover l D cy aR MR _ _ (r, MR') e2) gL_law_X8_cover rfl (by decide +kernel) (by decide) shR_0 rfl rfl rfl hl.1 rfl (Nat.le_of_ble_eq_true rfl) dL_law_730 hf) (fun H locs C => ?_)
  exact lv_icmp_eq (tgt := 939) S.1 S.2.1 dL_law_733 (by decide) (fun _ => kk MC' MR' H locs C h') (fun cq => absurd rfl cq)
set_option maxHeartbeats 4000000 in
set_option maxRecDepth 100000 in
theorem law_c16 {p : Program} {l : Launch} {e : Env} {s : State} {m : MethodId} {below : List Frame} {meth : Method} {c : Code} {D : va_G} {cy : gCy} {aC aR : Nat → Nat} {b L cells slots i : Nat} {xs : Nat → Int32} {MC MR : gMem} {H : Heap} {locs : List Loc} {ls : Array Slot} {Q : State → Prop} (S : CallFix p m c cL_law 4 s #[Value.ref b] wsL_law RL) (hX : va_X b L xs s s.heap) (hbl : b < s.heap.size) (hL : L ≤ 2560) (hf : cells + 0 ≤ room_1.cells ∧ slots + 0 ≤ room_1.slots) (hi : i + 5 ≤ L) (C : lwI D cy aC aR s MC MR H locs) (h : Inv MC MR) (hl : lv_has ls 4 [(0, .ref b), (1, .ref (aC 0)), (2, .ref (aR 0)), (3, .int (nI i))])
    (kk : ∀ (MC1 MR1 : gMem) (H1 : Heap) (locs1 : List Loc), lwI D cy aC aR s MC1 MR1 H1 locs1 → Inv MC1 MR1 → W p l e room_1 s m #[Value.ref b] below meth c H1 locs1 cells slots Q (F0 m 939 ls [])) : W p l e room_1 s m #[Value.ref b] below meth c H locs cells slots Q (F0 m 738 ls []) := by
  obtain ⟨r, e1, e2⟩ := op_piece h (xs (i + 1)) (xs (i + 2))
  refine lv_aload_n S.1 S.2.1 dL_law_738 rfl (lv_at hl 1 rfl) ?_
  refine lArg 1 S hX hbl hL C.S hl (by omega) (by decide) dL_law_739 dL_law_740 dL_law_741 dL_law_742 dL_law_743 ?_
  refine lArg 2 S hX hbl hL C.S hl (by omega) (by decide) dL_law_744 dL_law_745 dL_law_746 dL_law_747 dL_law_748 ?_
  refine lC_lC C (lRV (k := 0) (ci := 6) (r := (RX7, TX7, 9)) (As := [.int (xs (i + 1)), .int (xs (i + 2))]) (rest := []) 2 S C.1 C.2.1 C.2.2.1 C.2.2.2.2.1 (c_X7_piece l D cy aC MC _ _ r e1) gL_law_X7_piece rfl (by decide +kernel) (by decide) shC_0 rfl rfl rfl hl.1 rfl (Nat.le_of_ble_eq_true rfl) dL_law_749 hf) (fun H locs C => ?_)
  refine lv_aload_n S.1 S.2.1 dL_law_752 rfl (lv_at hl 2 rfl) ?_
  refine lArg 1 S hX hbl hL C.S hl (by omega) (by decide) dL_law_753 dL_law_754 dL_law_755 dL_law_756 dL_law_757 ?_
  refine lArg 2 S hX hbl hL C.S hl (by omega) (by decide) dL_law_758 dL_law_759 dL_law_760 dL_law_761 dL_law_762 ?_
  refine lC_lR C (lRV (k := 0) (ci := 7) (r := (RX8, TX8, 34)) (As := [.int (xs (i + 1)), .int (xs (i + 2))]) (rest := [.long r]) 2 S C.1 C.2.1 C.2.2.2.1 C.2.2.2.2.2.1 (c_X8_piece l D cy aR MR _ _ r e2) gL_law_X8_piece rfl (by decide +kernel) (by decide) shR_0 rfl rfl rfl hl.1 rfl (Nat.le_of_ble_eq_true rfl) dL_law_763 hf) (fun H locs C => ?_)
  refine W.lcmp S.1 S.2.1 dL_law_766 ?_
  exact lv_if_eq (tgt := 939) S.1 S.2.1 dL_law_767 (by decide) (fun _ => kk MC MR H locs C h) (fun cq => absurd (cmp_eq.mpr rfl) cq)
set_option maxHeartbeats 4000000 in
set_option maxRecDepth 100000 in
theorem law_c17 {p : Program} {l : Launch} {e : Env} {s : State} {m : MethodId} {below : List Frame} {meth : Method} {c : Code} {D : va_G} {cy : gCy} {aC aR : Nat → Nat} {b L cells slots i : Nat} {xs : Nat → Int32} {MC MR : gMem} {H : Heap} {locs : List Loc} {ls : Array Slot} {Q : State → Prop} (S : CallFix p m c cL_law 4 s #[Value.ref b] wsL_law RL) (hX : va_X b L xs s s.heap) (hbl : b < s.heap.size) (hL : L ≤ 2560) (hf : cells + 0 ≤ room_1.cells ∧ slots + 0 ≤ room_1.slots) (hi : i + 5 ≤ L) (C : lwI D cy aC aR s MC MR H locs) (h : Inv MC MR) (hl : lv_has ls 4 [(0, .ref b), (1, .ref (aC 0)), (2, .ref (aR 0)), (3, .int (nI i))])
    (kk : ∀ (MC1 MR1 : gMem) (H1 : Heap) (locs1 : List Loc), lwI D cy aC aR s MC1 MR1 H1 locs1 → Inv MC1 MR1 → W p l e room_1 s m #[Value.ref b] below meth c H1 locs1 cells slots Q (F0 m 939 ls [])) : W p l e room_1 s m #[Value.ref b] below meth c H locs cells slots Q (F0 m 772 ls []) := by
  obtain ⟨r, MC', MR', e1, e2, h'⟩ := op_way h (xs (i + 1)) (xs (i + 2))
  refine lv_aload_n S.1 S.2.1 dL_law_772 rfl (lv_at hl 1 rfl) ?_
  refine lArg 1 S hX hbl hL C.S hl (by omega) (by decide) dL_law_773 dL_law_774 dL_law_775 dL_law_776 dL_law_777 ?_
  refine lArg 2 S hX hbl hL C.S hl (by omega) (by decide) dL_law_778 dL_law_779 dL_law_780 dL_law_781 dL_law_782 ?_
  refine lC_iC C (lRV (k := 0) (ci := 6) (r := (RX7, TX7, 9)) (As := [.int (xs (i + 1)), .int (xs (i + 2))]) (rest := []) 2 S C.1 C.2.1 C.2.2.1 C.2.2.2.2.1 (c_X7_way l D cy aC MC _ _ (r, MC') e1) gL_law_X7_way rfl (by decide +kernel) (by decide) shC_0 rfl rfl rfl hl.1 rfl (Nat.le_of_ble_eq_true rfl) dL_law_783 hf) (fun H locs C => ?_)
  refine lv_aload_n S.1 S.2.1 dL_law_786 rfl (lv_at hl 2 rfl) ?_
  refine lArg 1 S hX hbl hL C.S hl (by omega) (by decide) dL_law_787 dL_law_788 dL_law_789 dL_law_790 dL_law_791 ?_
  refine lArg 2 S hX hbl hL C.S hl (by omega) (by decide) dL_law_792 dL_law_793 dL_law_794 dL_law_795 dL_law_796 ?_
  refine lC_iR C (lRV (k := 0) (ci := 7) (r := (RX8, TX8, 34)) (As := [.int (xs (i + 1)), .int (xs (i + 2))]) (rest := [.int r]) 2 S C.1 C.2.1 C.2.2.2.1 C.2.2.2.2.2.1 (c_X8_way l D cy aR MR _ _ (r, MR') e2) gL_law_X8_way rfl (by decide +kernel) (by decide) shR_0 rfl rfl rfl hl.1 rfl (Nat.le_of_ble_eq_true rfl) dL_law_797 hf) (fun H locs C => ?_)
  exact lv_icmp_eq (tgt := 939) S.1 S.2.1 dL_law_800 (by decide) (fun _ => kk MC' MR' H locs C h') (fun cq => absurd rfl cq)
set_option maxHeartbeats 4000000 in
set_option maxRecDepth 100000 in
theorem law_c18 {p : Program} {l : Launch} {e : Env} {s : State} {m : MethodId} {below : List Frame} {meth : Method} {c : Code} {D : va_G} {cy : gCy} {aC aR : Nat → Nat} {b L cells slots i : Nat} {xs : Nat → Int32} {MC MR : gMem} {H : Heap} {locs : List Loc} {ls : Array Slot} {Q : State → Prop} (S : CallFix p m c cL_law 4 s #[Value.ref b] wsL_law RL) (hX : va_X b L xs s s.heap) (hbl : b < s.heap.size) (hL : L ≤ 2560) (hf : cells + 0 ≤ room_1.cells ∧ slots + 0 ≤ room_1.slots) (hi : i + 5 ≤ L) (C : lwI D cy aC aR s MC MR H locs) (h : Inv MC MR) (hl : lv_has ls 4 [(0, .ref b), (1, .ref (aC 0)), (2, .ref (aR 0)), (3, .int (nI i))])
    (kk : ∀ (MC1 MR1 : gMem) (H1 : Heap) (locs1 : List Loc), lwI D cy aC aR s MC1 MR1 H1 locs1 → Inv MC1 MR1 → W p l e room_1 s m #[Value.ref b] below meth c H1 locs1 cells slots Q (F0 m 939 ls [])) : W p l e room_1 s m #[Value.ref b] below meth c H locs cells slots Q (F0 m 805 ls []) := by
  obtain ⟨r, e1, e2⟩ := op_step h (xs (i + 1)) (xs (i + 2))
  refine lv_aload_n S.1 S.2.1 dL_law_805 rfl (lv_at hl 1 rfl) ?_
  refine lArg 1 S hX hbl hL C.S hl (by omega) (by decide) dL_law_806 dL_law_807 dL_law_808 dL_law_809 dL_law_810 ?_
  refine lArg 2 S hX hbl hL C.S hl (by omega) (by decide) dL_law_811 dL_law_812 dL_law_813 dL_law_814 dL_law_815 ?_
  refine lC_lC C (lRV (k := 0) (ci := 6) (r := (RX7, TX7, 9)) (As := [.int (xs (i + 1)), .int (xs (i + 2))]) (rest := []) 2 S C.1 C.2.1 C.2.2.1 C.2.2.2.2.1 (c_X7_step l D cy aC MC _ _ r e1) gL_law_X7_step rfl (by decide +kernel) (by decide) shC_0 rfl rfl rfl hl.1 rfl (Nat.le_of_ble_eq_true rfl) dL_law_816 hf) (fun H locs C => ?_)
  refine lv_aload_n S.1 S.2.1 dL_law_819 rfl (lv_at hl 2 rfl) ?_
  refine lArg 1 S hX hbl hL C.S hl (by omega) (by decide) dL_law_820 dL_law_821 dL_law_822 dL_law_823 dL_law_824 ?_
  refine lArg 2 S hX hbl hL C.S hl (by omega) (by decide) dL_law_825 dL_law_826 dL_law_827 dL_law_828 dL_law_829 ?_
  refine lC_lR C (lRV (k := 0) (ci := 7) (r := (RX8, TX8, 34)) (As := [.int (xs (i + 1)), .int (xs (i + 2))]) (rest := [.long r]) 2 S C.1 C.2.1 C.2.2.2.1 C.2.2.2.2.2.1 (c_X8_step_ l D cy aR MR _ _ r e2) gL_law_X8_step_ rfl (by decide +kernel) (by decide) shR_0 rfl rfl rfl hl.1 rfl (Nat.le_of_ble_eq_true rfl) dL_law_830 hf) (fun H locs C => ?_)
  refine W.lcmp S.1 S.2.1 dL_law_833 ?_
  exact lv_if_eq (tgt := 939) S.1 S.2.1 dL_law_834 (by decide) (fun _ => kk MC MR H locs C h) (fun cq => absurd (cmp_eq.mpr rfl) cq)
set_option maxHeartbeats 4000000 in
set_option maxRecDepth 100000 in
theorem law_c19 {p : Program} {l : Launch} {e : Env} {s : State} {m : MethodId} {below : List Frame} {meth : Method} {c : Code} {D : va_G} {cy : gCy} {aC aR : Nat → Nat} {b L cells slots i : Nat} {xs : Nat → Int32} {MC MR : gMem} {H : Heap} {locs : List Loc} {ls : Array Slot} {Q : State → Prop} (S : CallFix p m c cL_law 4 s #[Value.ref b] wsL_law RL) (hX : va_X b L xs s s.heap) (hbl : b < s.heap.size) (hL : L ≤ 2560) (hf : cells + 0 ≤ room_1.cells ∧ slots + 0 ≤ room_1.slots) (hi : i + 5 ≤ L) (C : lwI D cy aC aR s MC MR H locs) (h : Inv MC MR) (hl : lv_has ls 4 [(0, .ref b), (1, .ref (aC 0)), (2, .ref (aR 0)), (3, .int (nI i))])
    (kk : ∀ (MC1 MR1 : gMem) (H1 : Heap) (locs1 : List Loc), lwI D cy aC aR s MC1 MR1 H1 locs1 → Inv MC1 MR1 → W p l e room_1 s m #[Value.ref b] below meth c H1 locs1 cells slots Q (F0 m 939 ls [])) : W p l e room_1 s m #[Value.ref b] below meth c H locs cells slots Q (F0 m 839 ls []) := by
  obtain ⟨r, MC', e1, e2, h'⟩ := op_led h (xs (i + 1)) (xs (i + 2))
  refine lv_aload_n S.1 S.2.1 dL_law_839 rfl (lv_at hl 1 rfl) ?_
  refine lArg 1 S hX hbl hL C.S hl (by omega) (by decide) dL_law_840 dL_law_841 dL_law_842 dL_law_843 dL_law_844 ?_
  refine lArg 2 S hX hbl hL C.S hl (by omega) (by decide) dL_law_845 dL_law_846 dL_law_847 dL_law_848 dL_law_849 ?_
  refine lC_iC C (lRV (k := 0) (ci := 6) (r := (RX7, TX7, 9)) (As := [.int (xs (i + 1)), .int (xs (i + 2))]) (rest := []) 2 S C.1 C.2.1 C.2.2.1 C.2.2.2.2.1 (c_X7_led l D cy aC MC _ _ (r, MC') e1) gL_law_X7_led rfl (by decide +kernel) (by decide) shC_0 rfl rfl rfl hl.1 rfl (Nat.le_of_ble_eq_true rfl) dL_law_850 hf) (fun H locs C => ?_)
  refine lv_aload_n S.1 S.2.1 dL_law_853 rfl (lv_at hl 2 rfl) ?_
  refine lArg 1 S hX hbl hL C.S hl (by omega) (by decide) dL_law_854 dL_law_855 dL_law_856 dL_law_857 dL_law_858 ?_
  refine lArg 2 S hX hbl hL C.S hl (by omega) (by decide) dL_law_859 dL_law_860 dL_law_861 dL_law_862 dL_law_863 ?_
  refine lC_iR C (lRV (k := 0) (ci := 7) (r := (RX8, TX8, 34)) (As := [.int (xs (i + 1)), .int (xs (i + 2))]) (rest := [.int r]) 2 S C.1 C.2.1 C.2.2.2.1 C.2.2.2.2.2.1 (c_X8_led l D cy aR MR _ _ r e2) gL_law_X8_led rfl (by decide +kernel) (by decide) shR_0 rfl rfl rfl hl.1 rfl (Nat.le_of_ble_eq_true rfl) dL_law_864 hf) (fun H locs C => ?_)
  exact lv_icmp_eq (tgt := 939) S.1 S.2.1 dL_law_867 (by decide) (fun _ => kk MC' MR H locs C h') (fun cq => absurd rfl cq)
set_option maxHeartbeats 4000000 in
set_option maxRecDepth 100000 in
theorem law_c20 {p : Program} {l : Launch} {e : Env} {s : State} {m : MethodId} {below : List Frame} {meth : Method} {c : Code} {D : va_G} {cy : gCy} {aC aR : Nat → Nat} {b L cells slots i : Nat} {xs : Nat → Int32} {MC MR : gMem} {H : Heap} {locs : List Loc} {ls : Array Slot} {Q : State → Prop} (S : CallFix p m c cL_law 4 s #[Value.ref b] wsL_law RL) (hX : va_X b L xs s s.heap) (hbl : b < s.heap.size) (hL : L ≤ 2560) (hf : cells + 0 ≤ room_1.cells ∧ slots + 0 ≤ room_1.slots) (hi : i + 5 ≤ L) (C : lwI D cy aC aR s MC MR H locs) (h : Inv MC MR) (hl : lv_has ls 4 [(0, .ref b), (1, .ref (aC 0)), (2, .ref (aR 0)), (3, .int (nI i))])
    (kk : ∀ (MC1 MR1 : gMem) (H1 : Heap) (locs1 : List Loc), lwI D cy aC aR s MC1 MR1 H1 locs1 → Inv MC1 MR1 → W p l e room_1 s m #[Value.ref b] below meth c H1 locs1 cells slots Q (F0 m 939 ls [])) : W p l e room_1 s m #[Value.ref b] below meth c H locs cells slots Q (F0 m 872 ls []) := by
  obtain ⟨r, MC', MR', e1, e2, h'⟩ := op_nodes h (xs (i + 1)) (xs (i + 2))
  refine lv_aload_n S.1 S.2.1 dL_law_872 rfl (lv_at hl 1 rfl) ?_
  refine lArg 1 S hX hbl hL C.S hl (by omega) (by decide) dL_law_873 dL_law_874 dL_law_875 dL_law_876 dL_law_877 ?_
  refine lArg 2 S hX hbl hL C.S hl (by omega) (by decide) dL_law_878 dL_law_879 dL_law_880 dL_law_881 dL_law_882 ?_
  refine lC_lC C (lRV (k := 0) (ci := 6) (r := (RX7, TX7, 9)) (As := [.int (xs (i + 1)), .int (xs (i + 2))]) (rest := []) 2 S C.1 C.2.1 C.2.2.1 C.2.2.2.2.1 (c_X7_nodes l D cy aC MC _ _ (r, MC') e1) gL_law_X7_nodes rfl (by decide +kernel) (by decide) shC_0 rfl rfl rfl hl.1 rfl (Nat.le_of_ble_eq_true rfl) dL_law_883 hf) (fun H locs C => ?_)
  refine lv_aload_n S.1 S.2.1 dL_law_886 rfl (lv_at hl 2 rfl) ?_
  refine lArg 1 S hX hbl hL C.S hl (by omega) (by decide) dL_law_887 dL_law_888 dL_law_889 dL_law_890 dL_law_891 ?_
  refine lArg 2 S hX hbl hL C.S hl (by omega) (by decide) dL_law_892 dL_law_893 dL_law_894 dL_law_895 dL_law_896 ?_
  refine lC_lR C (lRV (k := 0) (ci := 7) (r := (RX8, TX8, 34)) (As := [.int (xs (i + 1)), .int (xs (i + 2))]) (rest := [.long r]) 2 S C.1 C.2.1 C.2.2.2.1 C.2.2.2.2.2.1 (c_X8_nodes l D cy aR MR _ _ (r, MR') e2) gL_law_X8_nodes rfl (by decide +kernel) (by decide) shR_0 rfl rfl rfl hl.1 rfl (Nat.le_of_ble_eq_true rfl) dL_law_897 hf) (fun H locs C => ?_)
  refine W.lcmp S.1 S.2.1 dL_law_900 ?_
  exact lv_if_eq (tgt := 939) S.1 S.2.1 dL_law_901 (by decide) (fun _ => kk MC' MR' H locs C h') (fun cq => absurd (cmp_eq.mpr rfl) cq)
set_option maxHeartbeats 4000000 in
set_option maxRecDepth 100000 in
theorem law_c21 {p : Program} {l : Launch} {e : Env} {s : State} {m : MethodId} {below : List Frame} {meth : Method} {c : Code} {D : va_G} {cy : gCy} {aC aR : Nat → Nat} {b L cells slots i : Nat} {xs : Nat → Int32} {MC MR : gMem} {H : Heap} {locs : List Loc} {ls : Array Slot} {Q : State → Prop} (S : CallFix p m c cL_law 4 s #[Value.ref b] wsL_law RL) (hX : va_X b L xs s s.heap) (hbl : b < s.heap.size) (hL : L ≤ 2560) (hf : cells + 0 ≤ room_1.cells ∧ slots + 0 ≤ room_1.slots) (hi : i + 5 ≤ L) (C : lwI D cy aC aR s MC MR H locs) (h : Inv MC MR) (hl : lv_has ls 4 [(0, .ref b), (1, .ref (aC 0)), (2, .ref (aR 0)), (3, .int (nI i))])
    (kk : ∀ (MC1 MR1 : gMem) (H1 : Heap) (locs1 : List Loc), lwI D cy aC aR s MC1 MR1 H1 locs1 → Inv MC1 MR1 → W p l e room_1 s m #[Value.ref b] below meth c H1 locs1 cells slots Q (F0 m 939 ls [])) : W p l e room_1 s m #[Value.ref b] below meth c H locs cells slots Q (F0 m 906 ls []) := by
  obtain ⟨r, MR', e1, e2, h'⟩ := op_steps h (xs (i + 1)) (xs (i + 2))
  refine lv_aload_n S.1 S.2.1 dL_law_906 rfl (lv_at hl 1 rfl) ?_
  refine lArg 1 S hX hbl hL C.S hl (by omega) (by decide) dL_law_907 dL_law_908 dL_law_909 dL_law_910 dL_law_911 ?_
  refine lArg 2 S hX hbl hL C.S hl (by omega) (by decide) dL_law_912 dL_law_913 dL_law_914 dL_law_915 dL_law_916 ?_
  refine lC_iC C (lRV (k := 0) (ci := 6) (r := (RX7, TX7, 9)) (As := [.int (xs (i + 1)), .int (xs (i + 2))]) (rest := []) 2 S C.1 C.2.1 C.2.2.1 C.2.2.2.2.1 (c_X7_steps l D cy aC MC _ _ r e1) gL_law_X7_steps rfl (by decide +kernel) (by decide) shC_0 rfl rfl rfl hl.1 rfl (Nat.le_of_ble_eq_true rfl) dL_law_917 hf) (fun H locs C => ?_)
  refine lv_aload_n S.1 S.2.1 dL_law_920 rfl (lv_at hl 2 rfl) ?_
  refine lArg 1 S hX hbl hL C.S hl (by omega) (by decide) dL_law_921 dL_law_922 dL_law_923 dL_law_924 dL_law_925 ?_
  refine lArg 2 S hX hbl hL C.S hl (by omega) (by decide) dL_law_926 dL_law_927 dL_law_928 dL_law_929 dL_law_930 ?_
  refine lC_iR C (lRV (k := 0) (ci := 7) (r := (RX8, TX8, 34)) (As := [.int (xs (i + 1)), .int (xs (i + 2))]) (rest := [.int r]) 2 S C.1 C.2.1 C.2.2.2.1 C.2.2.2.2.2.1 (c_X8_steps l D cy aR MR _ _ (r, MR') e2) gL_law_X8_steps rfl (by decide +kernel) (by decide) shR_0 rfl rfl rfl hl.1 rfl (Nat.le_of_ble_eq_true rfl) dL_law_931 hf) (fun H locs C => ?_)
  exact lv_icmp_eq (tgt := 939) S.1 S.2.1 dL_law_934 (by decide) (fun _ => kk MC MR' H locs C h') (fun cq => absurd rfl cq)
